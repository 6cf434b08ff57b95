import java.lang.reflect.InvocationTargetException;
import java.lang.reflect.Method;
import java.nio.ByteBuffer;
import java.util.ArrayList;
import java.util.Arrays;
import java.util.List;
import java.util.Random;

/** Runs of calls drawn by chance (from written seeds), on the class and on the model: each answer must be alike. */
public final class RandomRunsTest {
    private static final String[] CALLS = {"dark", "train", "guards", "law", "sent", "lamp", "show", "guard", "go",
        "fogs", "years", "undo", "log", "comes", "round", "changes", "soonest", "cheapest", "reached", "lamps",
        "timetable", "clashes", "lay", "nets", "could", "tells", "yards", "unseen", "posts", "halves", "smuggles",
        "rests", "astray", "due", "loops", "safe", "visits", "image", "back", "count"};

    private final Random random;
    private final DarkLamps real = new DarkLamps();
    private final Model model = new Model();
    private final StringBuilder told = new StringBuilder();
    private int mouths = 4;
    private int colours = 3;
    private int calls = 0;

    private RandomRunsTest(long seed) {
        random = new Random(seed);
    }

    static void run(Due due) {
        int runs = Integer.getInteger("runs", 400);
        for (int seed = 0; seed < runs; seed++) {
            String wrong = new RandomRunsTest(seed).wrongCall();
            due.that("random run " + seed + (wrong == null ? "" : ": " + wrong), wrong == null);
        }
    }

    private String wrongCall() {
        try {
            while (calls < 480) {
                int kind = random.nextInt(60);
                if (kind == 0 || calls == 0) {
                    tellNet();
                } else if (kind == 1) {
                    tellLaw();
                } else if (kind == 2) {
                    tryText();
                } else {
                    ask(CALLS[random.nextInt(CALLS.length)]);
                }
            }
            return null;
        } catch (AssertionError wrong) {
            return wrong.getMessage();
        }
    }

    private int pick(int low, int high) {
        return low + random.nextInt(high - low + 1);
    }

    private boolean rarely() {
        return random.nextInt(12) == 0;
    }

    private int mouth() {
        return rarely() ? pick(-1, 8) : pick(0, mouths - 1);
    }

    private int colour() {
        return rarely() ? pick(-1, 6) : pick(0, colours - 1);
    }

    private int lit() {
        return random.nextInt(5) == 0 ? 5 : colour();
    }

    private int set() {
        return rarely() ? pick(-1, 33) : pick(1, (1 << colours) - 1);
    }

    private void ask(String name) {
        Object[] a;
        switch (name) {
            case "dark": a = new Object[] {mouth(), lit(), pick(-1, 3)}; break;
            case "train": a = new Object[] {pick(-1, 8), pick(0, 4)}; break;
            case "guards": case "loops": case "visits": a = new Object[] {mouth()}; break;
            case "law": a = new Object[] {pick(-2, 4)}; break;
            case "sent": a = new Object[] {mouth(), lit(), rarely() ? pick(-1, 10) : pick(0, 9)}; break;
            case "lamp": a = new Object[] {pick(-1, 8), lit()}; break;
            case "show": a = new Object[] {mouth(), colour(), mouth()}; break;
            case "guard": a = new Object[] {mouth(), random.nextInt(5) < 3}; break;
            case "go": a = new Object[] {rarely() ? pick(-1, 201) : pick(1, 4)}; break;
            case "fogs": a = new Object[] {pick(-1, 100)}; break;
            case "years": a = new Object[] {rarely() ? pick(-1, 201) : pick(1, 9), random.nextLong()}; break;
            case "log": a = new Object[] {rarely() ? pick(-1, 60) : pick(0, 9), pick(-1, 3)}; break;
            case "comes": a = new Object[] {mouth(), lit(), rarely() ? pick(-1, 100) : pick(0, 9)}; break;
            case "round": a = new Object[] {mouth(), lit(), rarely() ? pick(-1, 2) : pick(0, 1)}; break;
            case "changes": case "cheapest": case "halves": a = new Object[] {mouth(), mouth(), set()}; break;
            case "soonest": a = new Object[] {mouth(), mouth(), set(), rarely() ? pick(-1, 2) : pick(0, 1)}; break;
            case "reached": a = new Object[] {mouth(), set()}; break;
            case "timetable": case "tells": a = new Object[] {rarely() ? pick(-1, 2) : pick(0, 1)}; break;
            case "lay": a = layArguments(); break;
            case "nets": a = new Object[] {rarely() ? pick(-2, 4097) : pick(-1, 60)}; break;
            case "could": a = new Object[] {pick(-1, 4)}; break;
            case "yards": a = new Object[] {mouth(), lit(), rarely() ? pick(-1, 61) : pick(0, 12)}; break;
            case "unseen": case "posts": a = new Object[] {mouth(), mouth()}; break;
            case "smuggles": a = new Object[] {mouth(), rarely() ? pick(0, 10) : pick(1, 9), colour(), mouth()}; break;
            case "rests": a = new Object[] {mouth(), rarely() ? pick(0, 10) : pick(1, 9), pick(-2, 5)}; break;
            case "due": a = new Object[] {pick(-1, 8)}; break;
            case "count": a = new Object[] {pick(-1, 14)}; break;
            default: a = new Object[0];
        }
        if (a.length > 0 && random.nextInt(30) == 0) {
            exaggerate(a, random.nextInt(a.length));
        }
        same(name, a);
    }

    private static final int[] EXTREMES = {Integer.MIN_VALUE, Integer.MAX_VALUE, Integer.MIN_VALUE + 1, -1000000, 1 << 16, 240, -2};

    private void exaggerate(Object[] a, int i) {
        if (a[i] instanceof Integer) {
            a[i] = EXTREMES[random.nextInt(EXTREMES.length)];
        }
    }

    /** Half of the STRINGS LAID are so in the NET as it is, that NETS do not run out at once. */
    private Object[] layArguments() {
        int mouth = mouth();
        int colour = colour();
        int k = rarely() ? pick(0, 5) : pick(1, 4);
        int to = random.nextBoolean() ? Math.max(0, model.comes(mouth, colour, Math.max(0, k))) : mouth();
        return new Object[] {mouth, colour, k, to};
    }

    private static final Class<?>[] KINDS = {int.class, boolean.class, long.class};

    private Object same(String name, Object... a) {
        calls++;
        Object got = answer(real, name, a);
        Object want = answer(model, name, a);
        if (!got.equals(want)) {
            throw new AssertionError(told + " call " + calls + " " + name + Arrays.toString(a) + " answered " + got + ", due is " + want);
        }
        return got;
    }

    private static Object answer(Object one, String name, Object[] a) {
        Class<?>[] types = new Class<?>[a.length];
        for (int i = 0; i < a.length; i++) {
            types[i] = KINDS[a[i] instanceof Integer ? 0 : a[i] instanceof Boolean ? 1 : 2];
        }
        try {
            Method method = one.getClass().getMethod(name, types);
            return method.invoke(one, a);
        } catch (InvocationTargetException thrown) {
            return "throws " + thrown.getCause();
        } catch (ReflectiveOperationException none) {
            throw new IllegalStateException(none);
        }
    }

    private void feedBoth(String text) {
        same("end", 0);
        byte[] bytes = text.getBytes(java.nio.charset.StandardCharsets.ISO_8859_1);
        for (int i = 0; i < bytes.length; i += 20) {
            ByteBuffer twenty = ByteBuffer.wrap(Arrays.copyOf(Arrays.copyOfRange(bytes, i, Math.min(i + 20, bytes.length)), 20));
            same("feed", twenty.getInt(), twenty.getInt(), twenty.getInt(), twenty.getInt(), twenty.getInt());
        }
    }

    private void tellNet() {
        int m = pick(random.nextBoolean() ? 1 : 5, 8);
        int c = pick(1, 5);
        List<String> clauses = new ArrayList<>();
        clauses.add("nm" + m + "c" + c + (random.nextBoolean() ? "f" + pick(0, 9) : "") + (random.nextBoolean() ? "h" + pick(0, 23) : ""));
        int unknown = pick(0, 4);
        List<String> had = new ArrayList<>();
        for (int i = pick(0, 18); i > 0; i--) {
            String from = "a" + pick(0, m - 1) + "c" + pick(0, c - 1);
            if (!had.contains(from)) {
                boolean hidden = unknown > 0 && random.nextInt(3) == 0;
                unknown -= hidden ? 1 : 0;
                had.add(from);
                clauses.add("t" + from + (!hidden && m > 1 && rarely() ? "" : "b" + (hidden ? 8 : pick(0, m - 1))) + (random.nextBoolean() ? "l" + pick(1, random.nextBoolean() ? 9 : 2) : ""));
            }
        }
        for (int i = pick(0, 6); i > 0; i--) {
            clauses.add("ra" + pick(0, m - 1) + "c" + (rarely() ? 5 : pick(0, c - 1)) + (random.nextBoolean() ? "h" + pick(0, 5) : "")
                    + (random.nextBoolean() ? "d" + pick(0, 9) : ""));
        }
        for (int i = pick(0, 4); i > 0; i--) {
            clauses.add("ga" + pick(0, m - 1));
        }
        java.util.Collections.shuffle(clauses, random);
        String text = String.join(random.nextInt(4) == 0 ? " ; " : ";", clauses);
        if (text.length() > 240) {
            return;
        }
        feedBoth(text);
        same("fault", 0);
        if (same("text", 0).equals(m)) {
            told.setLength(0);
            told.append(text);
            mouths = m;
            colours = c;
        }
        for (int what = 0; what < 14; what++) {
            same("count", what);
        }
    }

    private void tellLaw() {
        StringBuilder text = new StringBuilder();
        for (int i = pick(1, 3); i > 0; i--) {
            text.append(text.length() > 0 ? ";y:" : "y:");
            text.append(random.nextInt(3) > 0 ? condition(2) + "?" : "").append(sum(2));
        }
        if (text.length() <= 240) {
            feedBoth(text.toString());
            same("fault", 1);
            same("text", 1);
        }
    }

    private String condition(int depth) {
        String one = unit(depth);
        while (random.nextInt(4) == 0) {
            one += (random.nextBoolean() ? "|" : "&") + unit(depth);
        }
        return one;
    }

    private String unit(int depth) {
        int kind = depth > 0 ? random.nextInt(4) : 3;
        return kind == 0 ? "!" + unit(depth - 1) : kind == 1 ? "(" + condition(depth - 1) + ")"
                : sum(depth) + "=<>".charAt(random.nextInt(3)) + sum(depth);
    }

    private String sum(int depth) {
        String one = atom(depth);
        while (random.nextInt(3) == 0) {
            one += "+-*/".charAt(random.nextInt(4)) + atom(depth);
        }
        return one;
    }

    private String atom(int depth) {
        int kind = random.nextInt(depth > 0 ? 6 : 5);
        return kind == 5 ? "[" + sum(depth - 1) + "]" : kind < 3 ? "" + "clabg".charAt(random.nextInt(5))
                : "" + pick(0, rarely() ? 9999 : 9);
    }

    /** A text with a few bytes put in, left out or changed. */
    private void tryText() {
        String signs = random.nextBoolean() ? "ntrgmchfabld;0123456789  " : "y:?!()[]|&=<>+-*/clabg;0123456789 ";
        boolean law = signs.charAt(0) == 'y';
        StringBuilder text = new StringBuilder(law ? "y:" + condition(3) + "?" + sum(3) + ";y:" + sum(2)
                : told.length() > 0 ? told : "nm3;t;r;g");
        for (int i = pick(1, 3); i > 0 && text.length() > 0; i--) {
            int place = random.nextInt(text.length());
            char sign = signs.charAt(random.nextInt(signs.length()));
            switch (random.nextInt(4)) {
                case 0: text.deleteCharAt(place); break;
                case 1: text.setCharAt(place, sign); break;
                case 2: text.insert(place, sign); break;
                default: text.setLength(place);
            }
        }
        if (text.length() <= 240) {
            feedBoth(text.toString());
            same("fault", 0);
            same("fault", 1);
            same("fault", pick(-1, 2));
        }
    }
}
