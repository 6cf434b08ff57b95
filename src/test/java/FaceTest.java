import java.io.IOException;
import java.lang.reflect.Constructor;
import java.lang.reflect.Field;
import java.lang.reflect.Method;
import java.lang.reflect.Modifier;
import java.nio.file.Files;
import java.nio.file.Path;
import java.util.Arrays;
import java.util.Set;
import java.util.TreeSet;

/** The face of the class, and the rules of ../shared/LANGUAGE.md that can be seen from outside. */
final class FaceTest {
    private static final String FACE = "back()int changes(int,int,int)int cheapest(int,int,int)int clashes()int comes(int,int,int)int "
        + "could(int)int count(int)int dark(int,int,int)int due(int)int end(int)boolean fault(int)int "
        + "feed(int,int,int,int,int)int fogs(int)boolean go(int)int guard(int,boolean)int guards(int)int "
        + "halves(int,int,int)int image()int lamp(int,int)int lamps()int law(int)boolean lay(int,int,int,int)int "
        + "log(int,int)int loops(int)int nets(int)int posts(int,int)int reached(int,int)int rests(int,int,int)int "
        + "round(int,int,int)int safe()int sent(int,int,int)int show(int,int,int)int smuggles(int,int,int,int)int "
        + "soonest(int,int,int,int)int astray()int tells(int)int text(int)int timetable(int)int train(int,int)int "
        + "undo()int unseen(int,int)int visits(int)int yards(int,int,int)int years(int,long)int";
    private static final String[] NOT_ALLOWED = {"->", "::", "catch", "finally", "assert", "synchronized", "NaN",
        "Exact", "Random", "currentTime", "nanoTime", "Thread", "System.out", "static {", "\" +", "+ \""};

    static void run(Due due) throws IOException {
        face(due);
        source(due);
    }

    private static void face(Due due) {
        Class<?> one = DarkLamps.class;
        due.same("public and final", one.getModifiers(), Modifier.PUBLIC | Modifier.FINAL);
        Set<String> seen = new TreeSet<>();
        Set<String> publicNames = new TreeSet<>();
        for (Method method : one.getDeclaredMethods()) {
            if (!Modifier.isPrivate(method.getModifiers())) {
                String types = String.join(",", Arrays.stream(method.getParameterTypes()).map(Class::getName).toList());
                seen.add(method.getName() + "(" + types + ")" + method.getReturnType().getName());
                publicNames.add(method.getName());
                due.same(method.getName() + " is public alone", method.getModifiers(), Modifier.PUBLIC);
            }
        }
        due.that("face " + seen, seen.equals(new TreeSet<>(Arrays.asList(FACE.split(" ")))));
        for (Method method : one.getDeclaredMethods()) {
            boolean isPrivate = Modifier.isPrivate(method.getModifiers());
            due.same(method.getName() + " has a name of its own", isPrivate && publicNames.contains(method.getName()), false);
        }
        Constructor<?>[] made = one.getDeclaredConstructors();
        due.same("one constructor", made.length == 1 && Modifier.isPublic(made[0].getModifiers()), true);
        for (Field field : one.getDeclaredFields()) {
            boolean constant = field.getName().equals("NONE") || field.getName().equals("HIDDEN");
            due.same(field.getName() + " is private", Modifier.isPrivate(field.getModifiers()), !constant);
            due.same(field.getName() + " is final", Modifier.isFinal(field.getModifiers()), true);
        }
        for (Class<?> inside : one.getDeclaredClasses()) {
            int wanted = Modifier.PRIVATE | Modifier.STATIC | Modifier.FINAL;
            due.same(inside.getName() + " is private, static, final", inside.getModifiers(), wanted);
        }
        due.same("at most twelve classes", one.getDeclaredClasses().length <= 11, true);
        due.same("NONE", DarkLamps.NONE, -1);
        due.same("HIDDEN", DarkLamps.HIDDEN, -1000000);
    }

    private static void source(Due due) throws IOException {
        String text = Files.readString(Path.of("src/main/java/DarkLamps.java"));
        for (String word : NOT_ALLOWED) {
            due.same("'" + word + "' stands in the source", text.contains(word), false);
        }
        long imports = text.lines().filter(line -> line.startsWith("import")).count();
        due.same("imports", imports, 1);
        due.same("the import", text.startsWith("import java.util.NoSuchElementException;\n"), true);
        due.same("all signs are 1 to 127", text.chars().allMatch(sign -> sign > 0 && sign < 128), true);
    }
}
