import java.lang.reflect.Method;
import java.lang.reflect.Modifier;
import java.net.URL;
import java.net.URLClassLoader;
import java.nio.charset.StandardCharsets;
import java.nio.file.Files;
import java.nio.file.Path;
import java.util.ArrayList;
import java.util.List;
import java.util.regex.Matcher;
import java.util.regex.Pattern;
import javax.tools.ToolProvider;

/** The Java that README.md shows compiles, and each call that it shows answers what it says behind it. */
public final class ReadmeTest {
    private static final Pattern SHOWN = Pattern.compile("(.+);\\s*// (throws \\w+|true|false|-?\\d+)(:.*)?");
    private static final Pattern MADE = Pattern.compile("TokenSums \\w+ = new TokenSums\\(\\);");

    private static final List<String> ASKED = new ArrayList<>();
    private static final List<String> GOT = new ArrayList<>();
    private static final List<String> WANTED = new ArrayList<>();

    /** Called by the program that is made from the page. */
    public static void note(String call, String got, String want) {
        ASKED.add(call);
        GOT.add(got);
        WANTED.add(want);
    }

    public static void main(String[] args) throws Exception {
        Due due = new Due("ReadmeTest");
        String page = Files.readString(Path.of("README.md"), StandardCharsets.UTF_8);
        StringBuilder helpers = new StringBuilder();
        StringBuilder calls = new StringBuilder();
        int shown = sort(due, page, helpers, calls);
        due.is("README.md shows calls", shown > 0, true);
        run("public final class Shown {\n" + helpers + "public static void main(String[] args) {\n" + calls + "}\n}\n");
        due.is("calls that were run", ASKED.size(), shown);
        for (int i = 0; i < ASKED.size(); i++) {
            due.same(ASKED.get(i), List.of(GOT.get(i)), List.of(WANTED.get(i)));
        }
        everyCallIsShown(due);
        due.is("README.md tells of .ci/run, which can be run", page.contains("`.ci/run`") && Files.isExecutable(Path.of(".ci/run")), true);
        due.close();
    }

    /** Parts the page's Java into methods and calls; answers how many calls have an answer behind them. */
    private static int sort(Due due, String page, StringBuilder helpers, StringBuilder calls) {
        Matcher block = Pattern.compile("(?m)^```java\\n(.*?)^```$", Pattern.DOTALL).matcher(page);
        int shown = 0;
        while (block.find()) {
            if (block.group(1).startsWith("static ")) {
                helpers.append(block.group(1));
                continue;
            }
            for (String line : block.group(1).split("\n")) {
                Matcher call = SHOWN.matcher(line);
                if (call.matches()) {
                    shown++;
                    calls.append(held(call.group(1), call.group(2)));
                } else {
                    due.is("a line of README.md without an answer: " + line, MADE.matcher(line).matches(), true);
                    calls.append(line).append('\n');
                }
            }
        }
        return shown;
    }

    private static String held(String call, String want) {
        String told = '"' + call.replace("\\", "\\\\").replace("\"", "\\\"") + '"';
        return "try { ReadmeTest.note(" + told + ", \"\" + (" + call + "), \"" + want + "\"); }"
                + " catch (java.util.NoSuchElementException e) { ReadmeTest.note(" + told
                + ", \"throws NoSuchElementException\", \"" + want + "\"); }\n";
    }

    private static void run(String program) throws Exception {
        Path dir = Files.createTempDirectory("readme");
        Path file = dir.resolve("Shown.java");
        try {
            Files.writeString(file, program);
            int bad = ToolProvider.getSystemJavaCompiler().run(null, null, null, "-cp",
                    System.getProperty("java.class.path"), "-d", dir.toString(), file.toString());
            if (bad != 0) {
                System.out.println("ReadmeTest: what README.md shows does not compile");
                System.exit(1);
            }
            try (URLClassLoader loader = new URLClassLoader(new URL[] {dir.toUri().toURL()})) {
                loader.loadClass("Shown").getMethod("main", String[].class).invoke(null, (Object) new String[0]);
            }
        } finally {
            Files.deleteIfExists(dir.resolve("Shown.class"));
            Files.deleteIfExists(file);
            Files.deleteIfExists(dir);
        }
    }

    private static void everyCallIsShown(Due due) {
        String all = String.join("\n", ASKED);
        for (Method m : TokenSums.class.getDeclaredMethods()) {
            if (Modifier.isPublic(m.getModifiers())) {
                due.is("README.md shows " + m.getName() + "()", all.contains("x." + m.getName() + "("), true);
            }
        }
    }
}
