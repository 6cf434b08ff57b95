import java.lang.reflect.InvocationTargetException;
import java.lang.reflect.Method;
import java.util.Arrays;
import java.util.List;
import java.util.NoSuchElementException;
import java.util.function.Function;
import java.util.function.Supplier;

/**
 * "What is refused answers as told and changes nothing", for every promise: of each argument the last values that are
 * taken and the first ones that are refused on each side; what is full, empty, alike or not there.
 */
final class RefusedTest {
    private static final int NONE = -1;
    private static final int HIDDEN = -1000000;

    private final Due due;
    private final String name;
    private final Supplier<DarkLamps> state;
    private final List<Integer> untouched;
    private final int mouths;
    private final int colours;

    private RefusedTest(Due due, String name, Supplier<DarkLamps> state) {
        this.due = due;
        this.name = name;
        this.state = state;
        DarkLamps x = state.get();
        this.mouths = x.count(0);
        this.colours = x.count(1);
        this.untouched = Answers.of(x);
    }

    static void run(Due due) {
        for (int[] size : new int[][] {{5, 2}, {8, 5}, {1, 1}}) {
            String name = size[0] + " MOUTHS, " + size[1] + " COLOURS: ";
            new RefusedTest(due, name, () -> standing(size[0], size[1])).arguments();
        }
        new RefusedTest(due, "no NET: ", RefusedTest::withoutNet).noNet();
        new RefusedTest(due, "full: ", RefusedTest::full).fullOne();
        new RefusedTest(due, "new NET: ", () -> Due.net("nm3c2;tb1;tc1b8;r")).emptyOne();
        new RefusedTest(due, "last HOURS: ", () -> lateAt(9998)).lastHours(1);
        new RefusedTest(due, "last HOURS: ", () -> lateAt(9800)).lastHours(199);
        new RefusedTest(due, "last HOUR: ", () -> lateAt(9999)).lastHours(0);
        faults(due);
    }

    /* ---- states ---- */

    /** A ring by COLOUR 0; TRAINS that wait (0), are in a DARK (1), at rest (2); ACTS, an IMAGE, LAWS, a TAPE. */
    private static DarkLamps standing(int mouths, int colours) {
        StringBuilder net = new StringBuilder("nh5f3m" + mouths + "c" + colours);
        for (int mouth = 0; mouth < mouths; mouth++) {
            net.append(";ta" + mouth + "b" + (mouth + 1) % mouths);
        }
        net.append(colours > 1 ? ";ta2c1b8" : "");
        net.append(";rh90;rd9;rc5d1;ga" + (mouths - 1));
        DarkLamps x = Due.net(net.toString());
        Due.rule(x, "y:l+1");
        Due.rule(x, "y:9");
        x.fogs(50);
        x.go(1);
        x.image();
        x.go(2);
        x.guard(mouths - 1, true);
        x.show(mouths - 1, colours - 1, 0);
        x.lay(0, 0, 4, 4 % mouths);
        x.sent(0, 0, 9);
        x.go(1);
        x.lamp(0, 5);
        Due.feed(x, "nm5");
        return x;
    }

    private static DarkLamps withoutNet() {
        DarkLamps x = new DarkLamps();
        Due.rule(x, "y:9");
        x.fogs(50);
        Due.feed(x, "y:7");
        return x;
    }

    /** Eight TRAINS, nine GUARDS, ten STRINGS LAID, four LAWS, 40 ACTS, a LOG of 60, a TAPE of 240. */
    private static DarkLamps full() {
        DarkLamps x = Due.net("nm3c1;tb1;ta1b2;ta2b0;rd9;rd9;rd9;rd9;rd9;rd9;ga1;ga1;ga1;ga1");
        for (int i = 0; i < 4; i++) {
            Due.rule(x, "y:" + i);
        }
        x.go(20);
        for (int i = 0; i < 5; i++) {
            x.guard(1, true);
        }
        for (int i = 0; i < 10; i++) {
            x.lay(0, 0, 1, 1);
        }
        x.sent(0, 0, 9);
        x.sent(2, 0, 9);
        x.image();
        x.go(19);
        Due.feed(x, "y:1".concat("+1".repeat(118)));
        x.feed('0', 0, 0, 0, 0);
        return x;
    }

    /** With a TRAIN that is in a DARK and one that waits. */
    private static DarkLamps lateAt(int hour) {
        DarkLamps x = Due.net("nm2c1;tb1l9;rh99;rd0");
        while (x.count(7) < hour) {
            x.go(Math.min(200, hour - x.count(7)));
            if (x.count(7) == 9790) {
                x.sent(0, 0, 1);
            }
        }
        return x;
    }

    /* ---- how a call is looked at ---- */

    private void refused(String what, long got, long want, DarkLamps x) {
        due.same(name + what, got, want);
        due.that(name + what + " changes nothing", Answers.of(x).equals(untouched));
    }

    private void refused(String what, long want, Function<DarkLamps, Number> call) {
        DarkLamps x = state.get();
        refused(what, call.apply(x).longValue(), want, x);
    }

    private void refusedFlag(String what, Function<DarkLamps, Boolean> call) {
        refused(what, 0, x -> call.apply(x) ? 1 : 0);
    }

    /** What an argument can be: the last values that are taken, the first ones that are not. */
    private record Kind(int[] taken, int[] refused) {
        Kind but(int more) {
            int[] longer = Arrays.copyOf(refused, refused.length + 1);
            longer[refused.length] = more;
            return new Kind(taken, longer);
        }

        Kind justRefused() {
            return new Kind(new int[0], refused);
        }
    }

    private static Kind range(int least, int most) {
        return new Kind(new int[] {least, most}, new int[] {least - 1, most + 1, Integer.MIN_VALUE, Integer.MAX_VALUE});
    }

    private Kind mouth() {
        return range(0, mouths - 1);
    }

    private Kind colour() {
        return range(0, colours - 1).but(5).but(6);
    }

    private Kind lamp() {
        int above = colours < 5 ? colours : 6;
        return new Kind(new int[] {0, colours - 1, 5}, new int[] {-1, above, 6, Integer.MIN_VALUE, Integer.MAX_VALUE});
    }

    private Kind set() {
        return range(1, (1 << colours) - 1).but(1 << colours | 1).but(32).but(Integer.MIN_VALUE | 1);
    }

    /** Of each argument the bounds, the others being as the base has them. */
    private void bounds(String call, int want, int[] base, Kind... kinds) {
        for (int i = 0; i < kinds.length; i++) {
            for (int value : kinds[i].refused()) {
                int[] a = base.clone();
                a[i] = value;
                DarkLamps x = state.get();
                refused(call + Arrays.toString(a), answer(x, call, a), want, x);
            }
            for (int value : kinds[i].taken()) {
                int[] a = base.clone();
                a[i] = value;
                boolean taken = mouths == 1 || answer(state.get(), call, a) != want;
                due.that(name + call + Arrays.toString(a) + " is taken", taken);
            }
        }
    }

    private static long answer(DarkLamps x, String call, int[] a) {
        for (Method method : DarkLamps.class.getMethods()) {
            if (method.getName().equals(call) && method.getDeclaringClass() == DarkLamps.class) {
                Object[] some = new Object[a.length];
                for (int i = 0; i < a.length; i++) {
                    some[i] = a[i];
                    if (method.getParameterTypes()[i] == long.class) {
                        some[i] = (long) a[i];
                    }
                }
                return answer(x, method, some);
            }
        }
        throw new IllegalArgumentException(call);
    }

    private static long answer(DarkLamps x, Method method, Object[] some) {
        try {
            Object got = method.invoke(x, some);
            return got instanceof Boolean ? ((Boolean) got ? 1 : 0) : (Integer) got;
        } catch (InvocationTargetException thrown) {
            return thrown.getCause() instanceof NoSuchElementException ? Answers.THROWN : -99;
        } catch (IllegalAccessException wrong) {
            return -98;
        }
    }

    private static int[] with(int... base) {
        return base;
    }

    /* ---- each argument of each promise ---- */

    private void arguments() {
        textsAndTrains();
        byHand();
        ways();
        plans();
        if (mouths > 1) {
            inDarkAndKnown();
        }
    }

    private void textsAndTrains() {
        bounds("end", 0, with(0), range(0, 3));
        bounds("fault", -2, with(0), range(0, 1));
        bounds("text", NONE, with(0), new Kind(new int[] {0}, new int[] {-1, 1, 2, Integer.MIN_VALUE, Integer.MAX_VALUE}));
        bounds("dark", NONE, with(0, 0, 0), mouth(), lamp(), range(0, 2));
        bounds("train", Answers.THROWN, with(0, 0), range(0, 3), range(0, 3));
        bounds("guards", NONE, with(0), mouth());
        bounds("law", 0, with(0), range(-1, 1));
        bounds("log", NONE, with(0, 0), range(0, state.get().count(12) - 1), range(0, 2));
        bounds("due", NONE, with(0), range(0, 3));
        bounds("visits", NONE, with(0), mouth());
        bounds("count", HIDDEN, with(0), range(0, 13));
    }

    private void byHand() {
        bounds("sent", NONE, with(0, 0, 0), mouth(), lamp(), range(0, 9));
        bounds("lamp", NONE, with(0, 0), new Kind(new int[] {0, 2}, range(0, 3).refused()), lamp());
        bounds("show", NONE, with(0, 0, mouths - 2), mouth(), colour(), mouth());
        bounds("go", NONE, with(1), range(1, 200));
        bounds("years", NONE, with(1, 7), range(1, 200));
        bounds("fogs", 0, with(1), range(0, 99).but(50));
        refused("guard(-1, true)", NONE, x -> x.guard(-1, true));
        refused("guard(-1, false)", NONE, x -> x.guard(-1, false));
        refused("guard(m, true)", NONE, x -> x.guard(mouths, true));
        refused("guard(m, false)", NONE, x -> x.guard(mouths, false));
        due.same(name + "guard(0, true)", state.get().guard(0, true), mouths == 1 ? 3 : 1);
        due.same(name + "guard(m - 1, false)", state.get().guard(mouths - 1, false), 1);
    }

    private void ways() {
        int last = mouths - 1;
        bounds("comes", NONE, with(0, 0, 1), mouth(), lamp(), range(0, 99));
        bounds("round", NONE, with(0, 0, 0), mouth(), lamp(), range(0, 1));
        bounds("changes", NONE, with(last, 0, 1), mouth(), mouth(), set());
        bounds("soonest", NONE, with(last, 0, 1, 0), mouth(), mouth(), set(), range(0, 1));
        bounds("cheapest", NONE, with(last, 0, 1), mouth(), mouth(), set());
        bounds("reached", NONE, with(0, 1), mouth(), set());
        bounds("yards", NONE, with(0, 0, 0), mouth(), lamp(), range(0, 60));
        bounds("unseen", NONE, with(0, last), mouth(), mouth());
        bounds("posts", NONE, with(1, 3), mouth(), mouth());
        bounds("halves", NONE, with(last, 0, (1 << colours) - 1), mouth(), mouth());
        bounds("halves", NONE, with(0, 0, 1), mouth().justRefused(), mouth().justRefused(), set());
        bounds("loops", NONE, with(0), mouth());
    }

    private void plans() {
        int nets = state.get().nets(NONE);
        int unknown = state.get().count(10);
        bounds("timetable", NONE, with(0), range(0, 1));
        bounds("lay", NONE, with(0, 0, 1, 0), mouth(), colour(), range(1, 4), mouth());
        bounds("nets", NONE, with(0), range(-1, nets - 1));
        if (unknown > 0) {
            bounds("could", NONE, with(0), range(0, unknown - 1));
            bounds("tells", NONE, with(0), range(0, 1));
        }
        bounds("smuggles", HIDDEN, with(0, 1, 0, 0), mouth(), range(1, 9), colour(), mouth());
        int rests = state.get().rests(0, 1, NONE);
        bounds("rests", NONE, with(0, 1, -1), mouth(), range(1, 9), range(-1, rests - 1));
    }

    private void inDarkAndKnown() {
        for (int colour : new int[] {0, colours - 1, 5}) {
            refused("lamp in a DARK", NONE, x -> x.lamp(1, colour));
            refused("lamp in a DARK", NONE, x -> x.lamp(3, colour));
        }
        refused("show as told", NONE, x -> x.show(0, 0, 1));
        refused("show as shown", NONE, x -> x.show(mouths - 1, colours - 1, 0));
        refused("show without a TUNNEL", NONE, x -> x.show(0, 1, 0));
        refused("guard, none to go", NONE, x -> x.guard(0, false));
        refused("posts, alike", NONE, x -> x.posts(2, 2));
        refused("posts, none are enough", NONE, x -> x.posts(1, 2));
        refusedFlag("fogs as it is", x -> x.fogs(50));
    }

    /* ---- no NET ---- */

    private void noNet() {
        String[] calls = {"dark 000", "dark 050", "dark 052", "guards 0", "sent 000", "sent 050", "lamp 00", "lamp 05",
            "show 000", "go 1", "years 11", "undo ", "log 00", "comes 000", "comes 050", "round 000", "round 050",
            "changes 001", "soonest 0010", "cheapest 001", "reached 01", "lamps ", "timetable 0", "timetable 1",
            "clashes ", "lay 0010", "nets 0", "could 0", "tells 0", "tells 1", "yards 000", "yards 050", "unseen 00",
            "posts 01", "halves 001", "rests 010", "astray ", "due 0", "loops 0", "safe ", "visits 0", "image ",
            "back ", "text 0", "text 2"};
        for (String call : calls) {
            String[] part = call.split(" ", 2);
            int[] a = part[1].chars().map(digit -> digit - '0').toArray();
            refused(call, NONE, x -> answer(x, part[0], a));
        }
        refused("nets(NONE)", NONE, x -> x.nets(NONE));
        refused("rests(0, 1, NONE)", NONE, x -> x.rests(0, 1, NONE));
        refused("guard(0, true)", NONE, x -> x.guard(0, true));
        refused("guard(0, false)", NONE, x -> x.guard(0, false));
        refused("smuggles", HIDDEN, x -> x.smuggles(0, 1, 0, 0));
        refused("train", Answers.THROWN, x -> Answers.train(x, 0, 0));
        for (int set = -1; set <= 32; set++) {
            int colours = set;
            refused("changes by set " + set, NONE, x -> x.changes(0, 0, colours));
        }
    }

    /* ---- full and empty ---- */

    private void fullOne() {
        DarkLamps x = state.get();
        int[] counts = {3, 1, 8, 9, 4, 240, 3, 39, x.count(8), 0, 0, 10, 60, 40};
        for (int what = 0; what < counts.length; what++) {
            due.same(name + "count(" + what + ")", x.count(what), counts[what]);
        }
        refused("a ninth TRAIN", NONE, y -> y.sent(0, 0, 1));
        refused("a ninth TRAIN, UNLIT", NONE, y -> y.sent(0, 5, 0));
        refused("a tenth GUARD", NONE, y -> y.guard(1, true));
        refused("an eleventh STRING LAID", NONE, y -> y.lay(0, 0, 1, 1));
        refused("a fifth LAW", NONE, y -> y.text(1));
        refused("a LAW of the number 4", 0, y -> y.law(4) ? 1 : 0);
        refused("a byte more, the first", NONE, y -> y.feed(1 << 24, 0, 0, 0, 0));
        refused("a byte more, the last", NONE, y -> y.feed(0, 0, 0, 0, 1));
        refused("twenty bytes more", NONE, y -> y.feed(-1, -1, -1, -1, -1));
        refused("no byte more", 240, y -> y.feed(0, 0, 0, 0, 0));
        refused("end(241)", 0, y -> y.end(241) ? 1 : 0);
        refused("end(240)", 1, y -> y.end(240) ? 1 : 0);
        refused("log(60)", NONE, y -> y.log(60, 0));
        due.same(name + "the last LAW", state.get().law(3), true);
        due.same(name + "the LAW fills the TAPE", state.get().fault(1), NONE);
    }

    private void emptyOne() {
        refused("undo", NONE, DarkLamps::undo);
        refused("back", NONE, DarkLamps::back);
        refused("log", NONE, x -> x.log(0, 0));
        refused("text(0) of an empty TAPE", NONE, x -> x.text(0));
        refused("text(1) of an empty TAPE", NONE, x -> x.text(1));
        refused("fault(0) of an empty TAPE", 0, x -> x.fault(0));
        refused("fault(1) of an empty TAPE", 0, x -> x.fault(1));
        refused("end(0) of an empty TAPE", 1, x -> x.end(0) ? 1 : 0);
        refused("end(1) of an empty TAPE", 0, x -> x.end(1) ? 1 : 0);
        refused("law(0) of none", 0, x -> x.law(0) ? 1 : 0);
        refused("law(NONE)", 1, x -> x.law(NONE) ? 1 : 0);
        refused("fogs(0) at first", 0, x -> x.fogs(0) ? 1 : 0);
        refused("guard(0, false)", NONE, x -> x.guard(0, false));
        refused("lay is none of ACTS", 0, x -> x.count(11));
        refused("feed of nothing", 0, x -> x.feed(0, 0, 0, 0, 0));
        refused("could of a second one", NONE, x -> x.could(1));
    }

    private void lastHours(int left) {
        refused("go beyond 9,999", NONE, x -> x.go(left + 1));
        refused("years beyond 9,999", NONE, x -> x.years(left + 1, 5));
        refused("go(200)", NONE, x -> x.go(200));
        refused("years(200)", NONE, x -> x.years(200, 5));
        if (left > 0) {
            due.same(name + "go to 9,999", state.get().go(left), 9999);
            due.same(name + "years to 9,999", state.get().years(left, 5), 9999);
        }
    }

    /* ---- texts with a FAULT change nothing but the TAPE that was fed ---- */

    private static void faults(Due due) {
        String[] nets = {" ", "n;", "nm0", "nm9", "n;n", "t;t", "ta4", "tb4", "tc3", "ra4", "rc3", "rc4", "ga4", "x",
            "tb8;tc1b8;tc2b8;ta1b8;ta2b8", "g;g;g;g;g", "r;r;r;r;r;r;r", "y:1", "nm5 x", "nm 1 1"};
        for (String text : nets) {
            textRefused(due, 0, text);
        }
        String[] laws = {" ", "y", "y:", "y:1;", "y:a=1", "y:12345", "y:1?1", "y:[[[[[[[1]]]]]]]", "n", "y:1 x", "y:-1"};
        for (String text : laws) {
            textRefused(due, 1, text);
        }
    }

    private static void textRefused(Due due, int sort, String text) {
        Supplier<DarkLamps> fed = () -> {
            DarkLamps x = standing(5, 2);
            Due.feed(x, text);
            return x;
        };
        RefusedTest test = new RefusedTest(due, "'" + text + "': ", fed);
        test.refused("text(" + sort + ")", NONE, x -> x.text(sort));
        due.same(test.name + "has a FAULT", fed.get().fault(sort) == NONE, false);
    }
}
