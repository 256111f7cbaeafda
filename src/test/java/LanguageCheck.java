import java.lang.reflect.Constructor;
import java.lang.reflect.Field;
import java.lang.reflect.Member;
import java.lang.reflect.Method;
import java.lang.reflect.Modifier;
import java.nio.file.Files;
import java.nio.file.Path;
import java.util.ArrayList;
import java.util.Arrays;
import java.util.List;
import java.util.TreeSet;
import java.util.regex.Matcher;
import java.util.regex.Pattern;

/** What of LANGUAGE.md can be seen from the source's words and from the compiled class. */
public final class LanguageCheck {
    private static final String SOURCE = "src/main/java/ArrowOrders.java";
    private static final String[] NOT_WRITTEN = {
        "throw", "throws", "try", "catch", "finally", "synchronized", "assert", "instanceof", "import", "package", "while",
        "var", "native", "volatile", "transient", "protected", "lambda", "hashCode", "toString", "equals", "Object", "\\w+Exact"
    };
    private static final String[] FACE = {
        "feed int int int int int:int", "back int:int", "read:int", "place:int", "line int int:boolean", "other:int",
        "exchange int int:boolean", "bare int:int", "begin:boolean", "undo:boolean", "of int int:int", "far int int:int",
        "near int:int", "forces int int int int:int", "klass int int int:int", "walk int int int:int", "network int:int",
        "under int int:int", "post int int:int", "order int:int", "chain int:int", "straight int int:int",
        "sign int int:int", "colours int:int", "set int int:int", "like int:int", "hold int:boolean",
        "restore int:boolean", "count int:int"
    };

    private LanguageCheck() {
    }

    public static void main(String[] args) throws Exception {
        String raw = Files.readString(Path.of(args.length > 0 ? args[0] : SOURCE));
        String code = raw.replaceAll("(?s)/\\*.*?\\*/", "").replaceAll("//.*", "").replaceAll("\"[^\"\n]*\"", "\"\"");
        words(raw, code);
        face();
        for (Class<?> inner : ArrowOrders.class.getDeclaredClasses()) {
            inner(inner);
        }
        fields(ArrowOrders.class);
        methods(raw);
        made(code);
        Calls.close();
    }

    private static void words(String raw, String code) {
        for (String word : NOT_WRITTEN) {
            holds("no " + word, !Pattern.compile("\\b" + word + "\\b").matcher(code).find());
        }
        holds("no lambda", !code.contains("->"));
        holds("no method reference", !code.contains("::"));
        holds("only signs 9, 10, 32 .. 126", raw.chars().allMatch(c -> c == 10 || c >= 32 && c <= 126));
        holds("some twelve classes", Pattern.compile("\\bclass\\b").matcher(code).results().count() <= 12);
    }

    private static void face() {
        TreeSet<String> want = new TreeSet<>(Arrays.asList(FACE));
        TreeSet<String> got = new TreeSet<>();
        TreeSet<String> names = new TreeSet<>();
        for (Method m : ArrowOrders.class.getDeclaredMethods()) {
            if (Modifier.isPublic(m.getModifiers())) {
                StringBuilder call = new StringBuilder(m.getName());
                for (Class<?> type : m.getParameterTypes()) {
                    call.append(' ').append(type);
                }
                got.add(call.append(':').append(m.getReturnType()).toString());
                names.add(m.getName());
            }
        }
        holds("the face: " + got, got.equals(want));
        for (Method m : ArrowOrders.class.getDeclaredMethods()) {
            holds(m + " is public or private", isOpenOrOwn(m) || m.isSynthetic());
            holds(m + " has a name of its own", Modifier.isPublic(m.getModifiers()) || !names.contains(m.getName()));
        }
        for (Class<?> inner : ArrowOrders.class.getDeclaredClasses()) {
            for (Method m : inner.getDeclaredMethods()) {
                holds(m + " has no name of the face", !names.contains(m.getName()));
            }
        }
        Constructor<?>[] made = ArrowOrders.class.getDeclaredConstructors();
        holds("one constructor", made.length == 1 && made[0].getParameterCount() == 0 && Modifier.isPublic(made[0].getModifiers()));
        holds("final", Modifier.isFinal(ArrowOrders.class.getModifiers()));
        for (Field f : ArrowOrders.class.getDeclaredFields()) {
            holds(f + " is private, or NONE", Modifier.isPrivate(f.getModifiers()) || f.getName().equals("NONE"));
        }
    }

    private static boolean isOpenOrOwn(Member m) {
        return Modifier.isPublic(m.getModifiers()) || Modifier.isPrivate(m.getModifiers());
    }

    private static void inner(Class<?> inner) {
        holds(inner + " is static", Modifier.isStatic(inner.getModifiers()));
        holds(inner + " is not open", !Modifier.isPublic(inner.getModifiers()) && !Modifier.isProtected(inner.getModifiers()));
        fields(inner);
    }

    private static void fields(Class<?> type) {
        int own = 0;
        for (Field f : type.getDeclaredFields()) {
            if (Modifier.isStatic(f.getModifiers())) {
                holds(f + " is a constant", Modifier.isFinal(f.getModifiers()));
            } else {
                own++;
            }
        }
        holds(type + " has some twenty fields: " + own, own <= 20);
    }

    private static final Pattern METHOD = Pattern.compile(
        "^( {4,8})(?:(?:public|private|static|final) )*[\\w<>\\[\\]]+ (\\w+)\\(([^)]*)\\) \\{$");

    private static void methods(String raw) {
        List<String> lines = new ArrayList<>(Arrays.asList(raw.split("\n")));
        int seen = 0;
        for (int i = 0; i < lines.size(); i++) {
            Matcher m = METHOD.matcher(lines.get(i));
            if (m.find()) {
                int end = lines.subList(i, lines.size()).indexOf(m.group(1) + "}");
                holds(m.group(2) + " has some sixty lines: " + end, end > 0 && end <= 60);
                holds(m.group(2) + " takes seven at most", m.group(3).split(",").length <= 7);
                seen++;
            }
        }
        holds("methods were seen", seen > 100);
    }

    /** One room for all calls: what is made is made with the object, in its fields and two constructors. */
    private static void made(String code) {
        for (String line : code.split("\n")) {
            if (Pattern.compile("\\bnew\\b").matcher(line).find()) {
                boolean field = line.matches("\\s+(private )?final \\w+(\\[\\])? \\w+ = new .*;");
                boolean filled = line.matches("\\s+(slots|ring)\\[i\\] = new Net\\(\\);");
                holds("made with the object: " + line.trim(), field || filled);
            }
        }
        holds("no texts joined", !Pattern.compile("StringBuilder|\\+ \"|\" \\+").matcher(code).find());
    }

    private static void holds(String what, boolean is) {
        Calls.due(what, is, true);
    }
}
