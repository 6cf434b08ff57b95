import java.io.IOException;
import java.io.PrintWriter;
import java.io.StringWriter;
import java.lang.reflect.Executable;
import java.lang.reflect.Field;
import java.lang.reflect.Modifier;
import java.nio.file.Files;
import java.nio.file.Path;
import java.util.ArrayList;
import java.util.HashMap;
import java.util.List;
import java.util.Map;
import java.util.Set;
import java.util.TreeMap;
import java.util.TreeSet;
import java.util.regex.Matcher;
import java.util.regex.Pattern;
import java.util.spi.ToolProvider;
import java.util.stream.Stream;

/** Rule 11 of ../shared/LANGUAGE.md, and what of rules 2, 6 and 12 shows in the compiled class. */
final class SizesTest {
    private static final int MOST_PARAMETERS = 7;
    private static final int MOST_LINES = 60;
    private static final int MOST_DEEP = 8;
    private static final int MOST_CLASSES = 12;
    private static final int MOST_FIELDS = 20;
    private static final Pattern CLASS = Pattern.compile("^(?:[a-z]+ )*class (\\S+).*\\{$");
    private static final Pattern METHOD = Pattern.compile("^  (?:[^ (]+ )*([\\w$.]+)\\(.*\\).*;$");
    private static final Pattern MAKES = Pattern.compile("^ +\\d+: (new|newarray|anewarray|multianewarray) .*");
    private static final Pattern CALL = Pattern.compile(": invoke.*// Method (?:([\\w$/]+)\\.)?\"?([\\w$<>]+)\"?:");

    private final Map<String, Set<String>> calls = new TreeMap<>();
    private final Set<String> makers = new TreeSet<>();
    private final Map<String, Set<String>> reached = new HashMap<>();
    private final Map<String, List<String>> deepest = new HashMap<>();

    static void run(Due due) throws IOException {
        SizesTest one = new SizesTest();
        String code = code();
        one.readCalls(code);
        one.depths(due);
        due.that("objects and rows are made in constructors, but for the ring of ACTS and what is thrown: " + one.makers,
                one.makers.equals(Set.of("DarkLamps$Acts.aheadAt", "DarkLamps.train")));
        due.same("lambdas and joined texts", code.contains("invokedynamic"), false);
        due.same("catches", code.contains("Exception table"), false);
        members(due);
        lines(due);
    }

    /* ---- calls, as javap tells them ---- */

    private static String code() throws IOException {
        Path own = Path.of(System.getProperty("java.class.path").split(java.io.File.pathSeparator)[0]);
        List<String> arguments = new ArrayList<>(List.of("-c", "-p"));
        try (Stream<Path> files = Files.list(own)) {
            files.filter(file -> file.getFileName().toString().matches("DarkLamps(\\$\\w+)?\\.class"))
                    .forEach(file -> arguments.add(file.toString()));
        }
        StringWriter text = new StringWriter();
        PrintWriter out = new PrintWriter(text);
        ToolProvider.findFirst("javap").orElseThrow().run(out, out, arguments.toArray(new String[0]));
        return text.toString();
    }

    private void readCalls(String code) {
        String owner = "";
        String method = "";
        for (String line : code.split("\n")) {
            Matcher classLine = CLASS.matcher(line);
            Matcher methodLine = METHOD.matcher(line);
            Matcher callLine = CALL.matcher(line);
            if (classLine.matches()) {
                owner = classLine.group(1);
            } else if (methodLine.matches()) {
                String name = methodLine.group(1);
                method = owner + "." + (name.equals(owner) ? "<init>" : name);
                calls.put(method, new TreeSet<>());
            } else if (line.startsWith("  static {}")) {
                method = owner + ".<clinit>";
                calls.put(method, new TreeSet<>());
            } else if (MAKES.matcher(line).matches()) {
                if (!method.contains("init>")) {
                    makers.add(method);
                }
            } else if (callLine.find()) {
                String to = callLine.group(1) == null ? owner : callLine.group(1);
                if (!to.startsWith("java/")) {
                    calls.get(method).add(to + "." + callLine.group(2));
                }
            }
        }
    }

    private void depths(Due due) {
        due.that("calls were read", calls.size() > 150 && calls.get("DarkLamps.text").size() > 5);
        for (String method : calls.keySet()) {
            reached.put(method, reachedFrom(method));
        }
        for (String method : calls.keySet()) {
            List<String> chain = deepestFrom(method);
            due.that("calls are at most eight deep: " + chain, chain.size() <= MOST_DEEP);
        }
    }

    private Set<String> reachedFrom(String method) {
        Set<String> seen = new TreeSet<>(calls.get(method));
        List<String> open = new ArrayList<>(seen);
        for (int i = 0; i < open.size(); i++) {
            for (String next : calls.get(open.get(i))) {
                if (seen.add(next)) {
                    open.add(next);
                }
            }
        }
        return seen;
    }

    private boolean alike(String one, String other) {
        return one.equals(other) || reached.get(one).contains(other) && reached.get(other).contains(one);
    }

    /** The longest chain of calls; methods that call one another (rule 8) are no part of it. */
    private List<String> deepestFrom(String method) {
        if (deepest.containsKey(method)) {
            return deepest.get(method);
        }
        List<String> best = List.of();
        for (String fellow : calls.keySet()) {
            if (alike(method, fellow)) {
                for (String next : calls.get(fellow)) {
                    List<String> chain = alike(method, next) ? List.of() : deepestFrom(next);
                    best = chain.size() > best.size() ? chain : best;
                }
            }
        }
        List<String> all = new ArrayList<>(best);
        if (!reached.get(method).contains(method)) {
            all.add(0, method);
        }
        deepest.put(method, all);
        return all;
    }

    /* ---- classes, fields, parameters, lines ---- */

    private static void members(Due due) {
        List<Class<?>> classes = new ArrayList<>(List.of(DarkLamps.class.getDeclaredClasses()));
        classes.add(DarkLamps.class);
        due.that("at most twelve classes", classes.size() <= MOST_CLASSES);
        for (Class<?> one : classes) {
            due.same(one.getName() + " has classes inside", one != DarkLamps.class && one.getDeclaredClasses().length > 0, false);
            int fields = 0;
            for (Field field : one.getDeclaredFields()) {
                boolean isStatic = Modifier.isStatic(field.getModifiers());
                fields += isStatic ? 0 : 1;
                due.that(field + " is final", !isStatic || Modifier.isFinal(field.getModifiers()));
            }
            due.that(one.getName() + " has at most twenty fields", fields <= MOST_FIELDS);
            List<Executable> members = new ArrayList<>(List.of(one.getDeclaredMethods()));
            members.addAll(List.of(one.getDeclaredConstructors()));
            for (Executable member : members) {
                due.that(member + " takes at most seven parameters", member.getParameterCount() <= MOST_PARAMETERS);
            }
        }
    }

    private static void lines(Due due) throws IOException {
        List<String> source = Files.readAllLines(Path.of("src/main/java/DarkLamps.java"));
        int start = -1;
        String indent = "";
        int methods = 0;
        for (int i = 0; i < source.size(); i++) {
            String line = source.get(i);
            Matcher head = Pattern.compile("^(    |        )[\\w\\[\\]]+[^=;]*\\(.*\\{$").matcher(line);
            if (start < 0 && head.matches()) {
                start = i;
                indent = head.group(1);
                methods++;
            }
            if (start >= 0 && line.equals(indent + "}")) {
                due.that("at most sixty lines: " + source.get(start).trim(), i - start + 1 <= MOST_LINES);
                start = -1;
            }
        }
        due.that("methods were seen: " + methods, methods > 150 && start < 0);
    }
}
