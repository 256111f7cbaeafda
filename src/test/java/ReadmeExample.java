import java.io.ByteArrayOutputStream;
import java.io.File;
import java.io.IOException;
import java.io.PrintStream;
import java.lang.reflect.Method;
import java.lang.reflect.Modifier;
import java.net.URL;
import java.net.URLClassLoader;
import java.nio.charset.StandardCharsets;
import java.nio.file.Files;
import java.nio.file.Path;
import java.util.ArrayList;
import java.util.List;
import java.util.TreeSet;
import java.util.regex.Matcher;
import java.util.regex.Pattern;
import javax.tools.JavaCompiler;
import javax.tools.ToolProvider;

/** README.md: its example compiles, runs and answers as it says; its table tells the calls that there are. */
public final class ReadmeExample {
    private static final String PAGE = "README.md";
    private static final Pattern BLOCK = Pattern.compile("(?ms)^```java\n(.*?)^```$");
    private static final Pattern NAME = Pattern.compile("(?m)^public final class (\\w+)");
    private static final Pattern SHOWN = Pattern.compile("(?m)^ +System\\.out\\.println\\((.*)\\);(.*)$");
    private static final Pattern ANSWER = Pattern.compile(" +// (-?\\d+|true|false): \\S.*");
    private static final Pattern CALL = Pattern.compile("`(\\w+)\\(([^)]*)\\)`");

    private ReadmeExample() {
    }

    public static void main(String[] args) throws Exception {
        String page = Files.readString(Path.of(args.length > 0 ? args[0] : PAGE));
        List<String> blocks = new ArrayList<>();
        for (Matcher m = BLOCK.matcher(page); m.find();) {
            blocks.add(m.group(1));
        }
        Calls.due("programs that the page shows", blocks.size(), 1);
        for (String block : blocks) {
            example(block);
        }
        table(page);
        constants(page);
        Calls.close();
    }

    private static void example(String program) throws Exception {
        Matcher name = NAME.matcher(program);
        if (!name.find()) {
            Calls.due("the example is a public final class", false, true);
            return;
        }
        Path room = Files.createTempDirectory("readme");
        try {
            if (compiles(room, name.group(1), program)) {
                answers(program, ran(room, name.group(1)));
            }
        } finally {
            empty(room);
        }
    }

    private static boolean compiles(Path room, String name, String program) throws IOException {
        Path source = room.resolve(name + ".java");
        Files.writeString(source, program);
        JavaCompiler javac = ToolProvider.getSystemJavaCompiler();
        int ended = javac == null ? -1 : javac.run(null, null, null, "-Xlint:all", "-Werror",
            "-cp", System.getProperty("java.class.path"), "-d", room.toString(), source.toString());
        Calls.due("javac of the example", ended, 0);
        return ended == 0;
    }

    private static String ran(Path room, String name) throws Exception {
        PrintStream out = System.out;
        ByteArrayOutputStream printed = new ByteArrayOutputStream();
        try (URLClassLoader loader = new URLClassLoader(new URL[] {room.toUri().toURL()})) {
            System.setOut(new PrintStream(printed, true, StandardCharsets.UTF_8));
            loader.loadClass(name).getMethod("main", String[].class).invoke(null, (Object) new String[0]);
        } finally {
            System.setOut(out);
        }
        return printed.toString(StandardCharsets.UTF_8);
    }

    /** Each call that is shown has its answer behind it, and prints it. */
    private static void answers(String program, String printed) {
        String[] lines = printed.split("\\R");
        int shown = 0;
        for (Matcher m = SHOWN.matcher(program); m.find();) {
            Matcher answer = ANSWER.matcher(m.group(2));
            String told = answer.matches() ? answer.group(1) : "nothing";
            String got = shown < lines.length ? lines[shown] : "nothing";
            Calls.due("the page tells " + told + " of " + m.group(1) + ", which prints " + got, told.equals(got), true);
            shown++;
        }
        Calls.due("lines that the example prints", lines.length, shown);
        Calls.due("the example shows some thirty calls: " + shown, shown >= 30, true);
    }

    private static void table(String page) {
        TreeSet<String> told = new TreeSet<>();
        for (String line : page.split("\n")) {
            String[] cells = line.split("\\|");
            for (Matcher m = CALL.matcher(cells.length > 1 ? cells[1] : ""); m.find();) {
                told.add(m.group(1) + " " + (m.group(2).isEmpty() ? 0 : m.group(2).split(",").length));
            }
        }
        TreeSet<String> there = new TreeSet<>();
        for (Method m : ArrowOrders.class.getDeclaredMethods()) {
            if (Modifier.isPublic(m.getModifiers())) {
                there.add(m.getName() + " " + m.getParameterCount());
            }
        }
        Calls.due("the page's table tells the calls " + told + ", there are " + there, told.equals(there), true);
    }

    private static void constants(String page) {
        Calls.due("the page tells NONE", page.contains("`ArrowOrders.NONE` (" + ArrowOrders.NONE + ")"), true);
        for (String about : new String[] {"new ArrowOrders()", "- -2:", "- -100000", "bash .ci/run"}) {
            Calls.due("the page tells " + about, page.contains(about), true);
        }
    }

    private static void empty(Path room) {
        File[] files = room.toFile().listFiles();
        for (File file : files == null ? new File[0] : files) {
            file.delete();
        }
        room.toFile().delete();
    }
}
