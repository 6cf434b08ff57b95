import java.util.ArrayList;
import java.util.Arrays;
import java.util.Collections;
import java.util.Comparator;
import java.util.HashMap;
import java.util.List;
import java.util.Map;
import java.util.NoSuchElementException;
import java.util.TreeMap;

/** The document once more, by the plainest means and other ones than the class: what RandomRunsTest holds it against. */
public final class Model {
    static final int NONE = -1;
    static final int HIDDEN = -1000000;

    /** A text that cannot go on. */
    private static final class Wrong extends RuntimeException {
        private static final long serialVersionUID = 1L;
        final int place;

        Wrong(int place) {
            this.place = place;
        }
    }

    private static final class Rail implements Cloneable {
        int mouth;
        int colour;
        int start;
        int fading;
        int toGo;
        boolean inside;
        int due;

        Rail copy() {
            Rail r = new Rail();
            r.mouth = mouth;
            r.colour = colour;
            r.start = start;
            r.fading = fading;
            r.toGo = toGo;
            r.inside = inside;
            r.due = due;
            return r;
        }
    }

    private static final class World {
        List<Rail> rails = new ArrayList<>();
        Map<String, Integer> to = new HashMap<>();
        int[] guards = new int[8];
        int hour;
        int meetings;
        List<int[]> log = new ArrayList<>();

        World copy() {
            World w = new World();
            for (Rail r : rails) {
                w.rails.add(r.copy());
            }
            w.to.putAll(to);
            w.guards = guards.clone();
            w.hour = hour;
            w.meetings = meetings;
            w.log.addAll(log);
            return w;
        }
    }

    private static final class Told {
        Map<Character, Integer> self;
        List<Map<Character, Integer>> tunnels = new ArrayList<>();
        List<Map<Character, Integer>> trains = new ArrayList<>();
        List<Map<Character, Integer>> guards = new ArrayList<>();
        int mouths;
        int colours;
        int fade;
    }

    private final StringBuilder tape = new StringBuilder();
    private final List<String> laws = new ArrayList<>();
    private int holding = NONE;
    private int fog;
    private Told told;
    private World w = new World();
    private final List<World> undos = new ArrayList<>();
    private World kept;
    private final List<int[]> laid = new ArrayList<>();

    public int feed(int a, int b, int c, int d, int e) {
        StringBuilder more = new StringBuilder();
        for (int word : new int[] {a, b, c, d, e}) {
            for (byte x : java.nio.ByteBuffer.allocate(4).putInt(word).array()) {
                if (x != 0) {
                    more.append((char) (x & 255));
                }
            }
        }
        if (tape.length() + more.length() > 240) {
            return NONE;
        }
        return tape.append(more).length();
    }

    public boolean end(int n) {
        if (n < 0 || n > tape.length()) {
            return false;
        }
        tape.setLength(n);
        return true;
    }

    public int fault(int sort) {
        if (sort != 0 && sort != 1) {
            return -2;
        }
        try {
            if (sort == 0) {
                readNet(tape.toString());
            } else {
                new LawText(tape.toString(), null).whole();
            }
            return NONE;
        } catch (Wrong wrong) {
            return wrong.place;
        }
    }

    private static final Map<Character, String> RULES = Map.of(
            'n', "m 1 8 4,c 1 5 3,h 0 23 0,f 0 9 0",
            't', "a 0 7 0,c 0 4 0,b 0 8 1,l 1 9 1",
            'r', "a 0 7 0,c 0 5 0,h 0 99 0,d 0 9 3",
            'g', "a 0 7 0");
    private static final Map<Character, Integer> MOST = Map.of('n', 1, 't', 18, 'r', 6, 'g', 4);

    private static Told readNet(String text) {
        Told t = new Told();
        Map<Character, List<Map<Character, Integer>>> all = new HashMap<>();
        for (char k : "ntrg".toCharArray()) {
            all.put(k, new ArrayList<>());
        }
        int i = 0;
        boolean open = true;
        while (open) {
            i = skip(text, i);
            if (i == text.length()) {
                throw new Wrong(i);
            }
            char kind = text.charAt(i);
            if (!RULES.containsKey(kind) || all.get(kind).size() == MOST.get(kind)) {
                throw new Wrong(i);
            }
            i = skip(text, i + 1);
            Map<Character, Integer> clause = new HashMap<>();
            while (i < text.length() && text.charAt(i) != ';') {
                i = readItem(text, i, RULES.get(kind), clause);
            }
            for (String rule : RULES.get(kind).split(",")) {
                String[] part = rule.split(" ");
                clause.putIfAbsent(part[0].charAt(0), Integer.parseInt(part[3]));
            }
            all.get(kind).add(clause);
            open = i < text.length();
            i++;
        }
        if (all.get('n').isEmpty()) {
            all.get('n').add(Map.of('m', 4, 'c', 3, 'h', 0, 'f', 0));
        }
        t.self = all.get('n').get(0);
        t.tunnels = all.get('t');
        t.trains = all.get('r');
        t.guards = all.get('g');
        t.mouths = t.self.get('m');
        t.colours = t.self.get('c');
        t.fade = t.self.get('f');
        checkNet(t, text.length());
        return t;
    }

    private static int readItem(String text, int from, String rules, Map<Character, Integer> clause) {
        char letter = text.charAt(from);
        String[] part = null;
        for (String rule : rules.split(",")) {
            if (rule.charAt(0) == letter) {
                part = rule.split(" ");
            }
        }
        if (part == null || clause.containsKey(letter)) {
            throw new Wrong(from);
        }
        int i = skip(text, from + 1);
        int j = i;
        while (j < text.length() && Character.isDigit(text.charAt(j)) && text.charAt(j) < 128) {
            j++;
        }
        if (j == i) {
            throw new Wrong(i);
        }
        if (j - i > 2) {
            throw new Wrong(i + 2);
        }
        int value = Integer.parseInt(text.substring(i, j));
        if (value < Integer.parseInt(part[1]) || value > Integer.parseInt(part[2])) {
            throw new Wrong(j - 1);
        }
        clause.put(letter, value);
        return skip(text, j);
    }

    private static int skip(String text, int i) {
        while (i < text.length() && text.charAt(i) == ' ') {
            i++;
        }
        return i;
    }

    private static void checkNet(Told t, int length) {
        List<String> had = new ArrayList<>();
        int unknown = 0;
        for (Map<Character, Integer> c : t.tunnels) {
            String key = c.get('a') + "/" + c.get('c');
            boolean wrong = c.get('a') >= t.mouths || c.get('c') >= t.colours || had.contains(key);
            wrong |= c.get('b') != 8 && c.get('b') >= t.mouths;
            had.add(key);
            unknown += c.get('b') == 8 ? 1 : 0;
            if (wrong) {
                throw new Wrong(length);
            }
        }
        for (Map<Character, Integer> c : t.trains) {
            if (c.get('a') >= t.mouths || c.get('c') != 5 && c.get('c') >= t.colours) {
                throw new Wrong(length);
            }
        }
        for (Map<Character, Integer> c : t.guards) {
            if (c.get('a') >= t.mouths) {
                throw new Wrong(length);
            }
        }
        if (unknown > 4) {
            throw new Wrong(length);
        }
    }

    /** Reads a LAW and reckons its WORTH in one go (letters null: reads only). */
    private static final class LawText {
        final String text;
        final Map<Character, Integer> letters;
        int i = 0;
        int deep = 0;

        LawText(String text, Map<Character, Integer> letters) {
            this.text = text;
            this.letters = letters;
        }

        char peek() {
            i = skip(text, i);
            return i < text.length() ? text.charAt(i) : 0;
        }

        void want(char c) {
            if (peek() != c) {
                throw new Wrong(i);
            }
            i++;
        }

        boolean is(String some) {
            return peek() != 0 && some.indexOf(peek()) >= 0;
        }

        long whole() {
            Long worth = null;
            boolean open = true;
            while (open) {
                want('y');
                want(':');
                boolean conditional = is("!(");
                boolean holds = true;
                long sum = 0;
                if (conditional) {
                    holds = condition(null);
                } else {
                    sum = sum();
                    if (is("=<>")) {
                        conditional = true;
                        holds = condition(sum);
                    }
                }
                if (conditional) {
                    want('?');
                    sum = sum();
                }
                if (holds && worth == null) {
                    worth = sum;
                }
                open = peek() != 0;
                if (open) {
                    want(';');
                }
            }
            return worth == null ? 0 : worth;
        }

        boolean condition(Long first) {
            boolean any = truth(first);
            while (is("|")) {
                i++;
                any |= truth(null);
            }
            return any;
        }

        boolean truth(Long first) {
            boolean all = unit(first);
            while (is("&")) {
                i++;
                all &= unit(null);
            }
            return all;
        }

        boolean unit(Long first) {
            if (first == null && is("!")) {
                deeper();
                boolean not = !unit(null);
                deep--;
                return not;
            }
            if (first == null && is("(")) {
                deeper();
                boolean in = condition(null);
                want(')');
                deep--;
                return in;
            }
            long left = first == null ? sum() : first;
            if (!is("=<>")) {
                throw new Wrong(i);
            }
            char sign = text.charAt(i++);
            long right = sum();
            return sign == '=' ? left == right : sign == '<' ? left < right : left > right;
        }

        void deeper() {
            if (deep == 6) {
                throw new Wrong(i);
            }
            deep++;
            i++;
        }

        long sum() {
            long left = term();
            while (is("+-")) {
                char sign = text.charAt(i++);
                long right = term();
                left = within(sign == '+' ? left + right : left - right);
            }
            return left;
        }

        long term() {
            long left = atom();
            while (is("*/")) {
                char sign = text.charAt(i++);
                long right = atom();
                left = within(sign == '*' ? left * right : right == 0 ? 0 : left / right);
            }
            return left;
        }

        static long within(long v) {
            return v > 1000000 ? 1000000 : v < -1000000 ? -1000000 : v;
        }

        long atom() {
            if (is("[")) {
                deeper();
                long in = sum();
                want(']');
                deep--;
                return in;
            }
            if (is("clabg")) {
                char letter = text.charAt(i++);
                return letters == null ? 0 : letters.get(letter);
            }
            if (!is("0123456789")) {
                throw new Wrong(i);
            }
            int j = i;
            while (j < text.length() && "0123456789".indexOf(text.charAt(j)) >= 0) {
                j++;
            }
            if (j - i > 4) {
                throw new Wrong(i + 4);
            }
            long value = Long.parseLong(text.substring(i, j));
            i = j;
            return value;
        }
    }

    public int text(int sort) {
        if (fault(sort) != NONE) {
            return NONE;
        }
        if (sort == 1) {
            if (laws.size() == 4) {
                return NONE;
            }
            laws.add(tape.toString());
            tape.setLength(0);
            return laws.size() - 1;
        }
        told = readNet(tape.toString());
        tape.setLength(0);
        w = new World();
        w.hour = told.self.get('h');
        undos.clear();
        kept = null;
        laid.clear();
        for (Map<Character, Integer> t : told.tunnels) {
            w.to.put(t.get('a') + "/" + t.get('c'), t.get('b'));
        }
        for (Map<Character, Integer> r : told.trains) {
            w.rails.add(rail(r.get('a'), r.get('c'), w.hour + r.get('h'), r.get('d')));
        }
        for (Map<Character, Integer> g : told.guards) {
            w.guards[g.get('a')]++;
        }
        return told.mouths;
    }

    private static Rail rail(int mouth, int colour, int start, int darks) {
        Rail r = new Rail();
        r.mouth = mouth;
        r.colour = colour;
        r.start = start;
        r.fading = start;
        r.toGo = darks;
        return r;
    }

    private int mouths() {
        return told == null ? 0 : told.mouths;
    }

    private int colours() {
        return told == null ? 0 : told.colours;
    }

    private boolean mouth(int m) {
        return m >= 0 && m < mouths();
    }

    private boolean colour(int c) {
        return c >= 0 && c < colours();
    }

    private boolean lit(int c) {
        return c == 5 || colour(c);
    }

    private boolean set(int s) {
        return s > 0 && s < 1 << colours();
    }

    /** Where a DARK leads: 8 not known. */
    private int raw(int m, int c) {
        return c == 5 ? m : w.to.getOrDefault(m + "/" + c, m);
    }

    private int to(int m, int c) {
        return raw(m, c) == 8 ? m : raw(m, c);
    }

    private int length(int m, int c) {
        if (c != 5 && raw(m, c) != 8) {
            for (Map<Character, Integer> t : told.tunnels) {
                if (t.get('a') == m && t.get('c') == c) {
                    return t.get('l');
                }
            }
        }
        return 1;
    }

    private int price(int m, int c) {
        if (holding == NONE) {
            return length(m, c);
        }
        Map<Character, Integer> letters = Map.of('c', c, 'l', length(m, c), 'a', m, 'b', to(m, c), 'g', w.guards[to(m, c)]);
        long worth = new LawText(laws.get(holding), letters).whole();
        return (int) (worth < 0 ? 0 : worth > 99 ? 99 : worth);
    }

    public int dark(int mouth, int colour, int what) {
        if (!mouth(mouth) || !lit(colour) || what < 0 || what > 2) {
            return NONE;
        }
        if (what == 0) {
            return raw(mouth, colour) == 8 ? HIDDEN : raw(mouth, colour);
        }
        return what == 1 ? length(mouth, colour) : price(mouth, colour);
    }

    private int fade(int colour, int age) {
        int c = colour;
        for (int t = 1; t <= age; t++) {
            if (told.fade > 0 && t % told.fade == 0 && c != 5) {
                c = c == 0 ? 5 : c - 1;
            }
        }
        return c;
    }

    private int lampNow(Rail r) {
        return fade(r.colour, w.hour - r.fading);
    }

    public int train(int train, int what) {
        if (train < 0 || train >= w.rails.size() || what < 0 || what > 3) {
            throw new NoSuchElementException();
        }
        Rail r = w.rails.get(train);
        return what == 0 ? r.mouth : what == 1 ? lampNow(r) : what == 2 ? r.toGo : r.inside ? 1 : 0;
    }

    public int guards(int mouth) {
        return mouth(mouth) ? w.guards[mouth] : NONE;
    }

    public boolean law(int law) {
        if (law < -1 || law >= laws.size()) {
            return false;
        }
        holding = law;
        return true;
    }

    private void act() {
        undos.add(w.copy());
        if (undos.size() > 40) {
            undos.remove(0);
        }
    }

    public int sent(int mouth, int colour, int darks) {
        if (!mouth(mouth) || !lit(colour) || darks < 0 || darks > 9 || w.rails.size() == 8) {
            return NONE;
        }
        act();
        w.rails.add(rail(mouth, colour, w.hour, darks));
        return w.rails.size() - 1;
    }

    public int lamp(int train, int colour) {
        if (train < 0 || train >= w.rails.size() || !lit(colour) || w.rails.get(train).inside) {
            return NONE;
        }
        act();
        Rail r = w.rails.get(train);
        int had = lampNow(r);
        r.colour = colour;
        r.fading = w.hour;
        return had;
    }

    public int show(int mouth, int colour, int to) {
        if (!mouth(mouth) || !colour(colour) || !mouth(to) || raw(mouth, colour) == to) {
            return NONE;
        }
        act();
        int led = dark(mouth, colour, 0);
        w.to.put(mouth + "/" + colour, to);
        return led;
    }

    public int guard(int mouth, boolean comes) {
        if (!mouth(mouth) || comes && w.guards[mouth] == 9 || !comes && w.guards[mouth] == 0) {
            return NONE;
        }
        act();
        w.guards[mouth] += comes ? 1 : -1;
        return w.guards[mouth];
    }

    private boolean passable(int n) {
        return told != null && n >= 1 && n <= 200 && w.hour + n <= 9999;
    }

    public int go(int n) {
        if (!passable(n)) {
            return NONE;
        }
        for (int i = 0; i < n; i++) {
            hour(false, null);
        }
        return w.hour;
    }

    private void hour(boolean fogNow, long[] dawn) {
        act();
        List<Integer> outs = new ArrayList<>();
        for (int k = 0; k < w.rails.size(); k++) {
            Rail r = w.rails.get(k);
            if (r.inside && r.due == w.hour) {
                r.inside = false;
                if (dawn != null) {
                    r.mouth = draw(dawn, told.mouths);
                }
                outs.add(r.mouth);
                w.log.add(new int[] {k, r.mouth, w.hour});
            }
        }
        while (w.log.size() > 60) {
            w.log.remove(0);
        }
        for (Rail r : w.rails) {
            if (!fogNow && !r.inside && r.start <= w.hour && r.toGo > 0) {
                int lamp = lampNow(r);
                r.due = w.hour + length(r.mouth, lamp);
                r.mouth = to(r.mouth, lamp);
                r.inside = true;
                r.toGo--;
            }
        }
        for (int i = 0; i < outs.size(); i++) {
            for (int j = 0; j < i; j++) {
                w.meetings += outs.get(i).equals(outs.get(j)) ? 1 : 0;
            }
        }
        w.hour++;
    }

    private static int draw(long[] x, int k) {
        x[0] = x[0] * 6364136223846793005L + 1442695040888963407L;
        return (int) Long.remainderUnsigned(x[0] >>> 33, k);
    }

    public boolean fogs(int v) {
        if (v < 0 || v > 99 || v == fog) {
            return false;
        }
        fog = v;
        return true;
    }

    public int years(int n, long seed) {
        if (!passable(n)) {
            return NONE;
        }
        long[] x = {seed};
        for (int i = 0; i < n; i++) {
            boolean fogNow = draw(x, 100) < fog;
            hour(fogNow, w.hour % 24 == 6 ? x : null);
        }
        return w.hour;
    }

    public int undo() {
        if (undos.isEmpty()) {
            return NONE;
        }
        w = undos.remove(undos.size() - 1);
        return undos.size();
    }

    public int log(int i, int what) {
        if (i < 0 || i >= w.log.size() || what < 0 || what > 2) {
            return NONE;
        }
        return w.log.get(w.log.size() - 1 - i)[what];
    }

    public int comes(int mouth, int colour, int n) {
        if (!mouth(mouth) || !lit(colour) || n < 0 || n > 99) {
            return NONE;
        }
        return n == 0 ? mouth : to(comes(mouth, colour, n - 1), colour);
    }

    public int round(int mouth, int colour, int what) {
        if (!mouth(mouth) || !lit(colour) || what < 0 || what > 1) {
            return NONE;
        }
        List<Integer> way = new ArrayList<>();
        int m = mouth;
        while (!way.contains(m)) {
            way.add(m);
            m = to(m, colour);
        }
        return what == 0 ? way.indexOf(m) : way.size() - way.indexOf(m);
    }

    private List<Integer> members(int set) {
        List<Integer> some = new ArrayList<>();
        for (int c = 0; c < 5; c++) {
            if ((set & 1 << c) != 0) {
                some.add(c);
            }
        }
        return some;
    }

    public int changes(int from, int to, int colours) {
        if (!mouth(from) || !mouth(to) || !set(colours)) {
            return NONE;
        }
        if (from == to) {
            return 0;
        }
        // The least over (MOUTH, LAMP), got by going on until nothing gets less.
        int[][] best = new int[8][5];
        for (int[] row : best) {
            Arrays.fill(row, 99);
        }
        for (int c : members(colours)) {
            best[from][c] = 0;
        }
        boolean less = true;
        while (less) {
            less = false;
            for (int m = 0; m < mouths(); m++) {
                for (int c : members(colours)) {
                    for (int d : members(colours)) {
                        int cost = best[m][c] + (c == d ? 0 : 1);
                        int next = to(m, d);
                        if (best[m][c] < 99 && cost < best[next][d]) {
                            best[next][d] = cost;
                            less = true;
                        }
                    }
                }
            }
        }
        int least = 99;
        for (int c : members(colours)) {
            least = Math.min(least, best[to][c]);
        }
        return least == 99 ? NONE : least;
    }

    private static final int FAR = 100000;

    /** All ways at once: the least between any two (Floyd and Warshall), through open MOUTHS. */
    private int[][] leasts(List<Integer> colours, boolean prices, int shut, int from, int to) {
        int[][] d = new int[8][8];
        for (int m = 0; m < 8; m++) {
            Arrays.fill(d[m], FAR);
            for (int c : colours) {
                if (m < mouths()) {
                    int cost = prices ? price(m, c) : length(m, c);
                    d[m][to(m, c)] = Math.min(d[m][to(m, c)], cost);
                }
            }
            d[m][m] = 0;
        }
        for (int k = 0; k < 8; k++) {
            if ((shut & 1 << k) != 0 && k != from && k != to) {
                continue;
            }
            for (int a = 0; a < 8; a++) {
                for (int b = 0; b < 8; b++) {
                    d[a][b] = Math.min(d[a][b], d[a][k] + d[k][b]);
                }
            }
        }
        return d;
    }

    public int soonest(int from, int to, int colours, int what) {
        if (!mouth(from) || !mouth(to) || !set(colours) || what < 0 || what > 1) {
            return NONE;
        }
        int[][] d = leasts(members(colours), false, 0, from, to);
        if (d[from][to] >= FAR) {
            return NONE;
        }
        if (what == 0) {
            return d[from][to];
        }
        for (int c : members(colours)) {
            if (from != to && length(from, c) + d[to(from, c)][to] == d[from][to]) {
                return c;
            }
        }
        return NONE;
    }

    public int cheapest(int from, int to, int colours) {
        if (!mouth(from) || !mouth(to) || !set(colours)) {
            return NONE;
        }
        int cost = leasts(members(colours), true, 0, from, to)[from][to];
        return cost >= FAR ? NONE : cost;
    }

    public int reached(int from, int colours) {
        if (!mouth(from) || !set(colours)) {
            return NONE;
        }
        int[][] d = leasts(members(colours), false, 0, from, from);
        int bits = 0;
        for (int m = 0; m < 8; m++) {
            bits += d[from][m] < FAR ? 1 << m : 0;
        }
        return bits;
    }

    public int lamps() {
        List<Integer> sets = new ArrayList<>();
        for (int s = 0; s < 1 << colours() && told != null; s++) {
            int[][] d = leasts(members(s), false, 0, 0, 0);
            boolean all = true;
            for (int a = 0; a < mouths(); a++) {
                for (int b = 0; b < mouths(); b++) {
                    all &= d[a][b] < FAR;
                }
            }
            if (all) {
                sets.add(s);
            }
        }
        sets.sort(Comparator.<Integer>comparingInt(Integer::bitCount).thenComparingInt(x -> x));
        return sets.isEmpty() ? NONE : sets.get(0);
    }

    /** Whoever of the TRAINS told comes OUT: {hour, mouth, lamp}. */
    private List<int[]> outsOf(Map<Character, Integer> r, int delay) {
        List<int[]> outs = new ArrayList<>();
        int start = r.get('h') + delay;
        int mouth = r.get('a');
        int hour = start;
        for (int k = 0; k < 3 && k < r.get('d'); k++) {
            int lamp = fade(r.get('c'), hour - start);
            hour += length(mouth, lamp);
            mouth = to(mouth, lamp);
            outs.add(new int[] {hour, mouth, fade(r.get('c'), hour - start)});
        }
        return outs;
    }

    private static int alike(List<List<int[]>> all) {
        int many = 0;
        for (int i = 0; i < all.size(); i++) {
            for (int j = 0; j < i; j++) {
                for (int[] p : all.get(i)) {
                    for (int[] q : all.get(j)) {
                        many += Arrays.equals(p, q) ? 1 : 0;
                    }
                }
            }
        }
        return many;
    }

    public int timetable(int what) {
        if (told == null || what < 0 || what > 1) {
            return NONE;
        }
        int n = told.trains.size();
        int all = (int) Math.round(Math.pow(5, n));
        int least = NONE;
        int digits = NONE;
        List<List<List<int[]>>> ways = new ArrayList<>();
        for (Map<Character, Integer> r : told.trains) {
            List<List<int[]>> row = new ArrayList<>();
            for (int d = 0; d < 5; d++) {
                row.add(outsOf(r, d));
            }
            ways.add(row);
        }
        for (int k = 0; k < all; k++) {
            String five = Integer.toString(k, 5);
            five = "0".repeat(Math.max(0, n - five.length())) + five;
            int sum = 0;
            List<List<int[]>> outs = new ArrayList<>();
            for (int t = 0; t < n; t++) {
                sum += five.charAt(t) - '0';
                outs.add(ways.get(t).get(five.charAt(t) - '0'));
            }
            if ((least == NONE || sum < least) && alike(outs) == 0) {
                least = sum;
                digits = Integer.parseInt(five);
            }
        }
        return what == 0 ? least : digits;
    }

    public int clashes() {
        if (told == null) {
            return NONE;
        }
        List<List<int[]>> outs = new ArrayList<>();
        for (Map<Character, Integer> r : told.trains) {
            outs.add(outsOf(r, 0));
        }
        return alike(outs);
    }

    public int lay(int mouth, int colour, int k, int to) {
        if (!mouth(mouth) || !colour(colour) || !mouth(to) || k < 1 || k > 4 || laid.size() == 10) {
            return NONE;
        }
        laid.add(new int[] {mouth, colour, k, to});
        return laid.size();
    }

    private List<String> unknown() {
        List<String> some = new ArrayList<>();
        if (told != null) {
            for (Map<Character, Integer> t : told.tunnels) {
                String key = t.get('a') + "/" + t.get('c');
                if (w.to.get(key) == 8) {
                    some.add(key);
                }
            }
        }
        return some;
    }

    private TreeMap<Integer, List<Integer>> allNets() {
        TreeMap<Integer, List<Integer>> found = new TreeMap<>();
        grow(unknown(), new ArrayList<>(), found);
        return found;
    }

    private void grow(List<String> open, List<Integer> chosen, TreeMap<Integer, List<Integer>> found) {
        if (chosen.size() < open.size()) {
            for (int m = 0; m < mouths(); m++) {
                List<Integer> more = new ArrayList<>(chosen);
                more.add(m);
                grow(open, more, found);
            }
            return;
        }
        for (int[] s : laid) {
            int m = s[0];
            for (int k = 0; k < s[2]; k++) {
                int at = open.indexOf(m + "/" + s[1]);
                m = at >= 0 ? chosen.get(at) : to(m, s[1]);
            }
            if (m != s[3]) {
                return;
            }
        }
        String digits = "0";
        for (int m : chosen) {
            digits += m;
        }
        found.put(Integer.parseInt(digits), chosen);
    }

    public int nets(int i) {
        if (told == null || i < -1) {
            return NONE;
        }
        List<Integer> values = new ArrayList<>(allNets().keySet());
        return i == -1 ? values.size() : i < values.size() ? values.get(i) : NONE;
    }

    public int could(int i) {
        if (i < 0 || i >= unknown().size()) {
            return NONE;
        }
        int bits = 0;
        for (List<Integer> net : allNets().values()) {
            bits |= 1 << net.get(i);
        }
        return bits;
    }

    public int tells(int what) {
        int best = NONE;
        int bestMany = 0;
        List<List<Integer>> all = new ArrayList<>(allNets().values());
        for (int i = 0; i < unknown().size() && !all.isEmpty(); i++) {
            List<Integer> column = new ArrayList<>();
            for (List<Integer> net : all) {
                column.add(net.get(i));
            }
            int most = 0;
            for (int m = 0; m < 8; m++) {
                most = Math.max(most, Collections.frequency(column, m));
            }
            if (best == NONE || most < bestMany) {
                best = i;
                bestMany = most;
            }
        }
        return best == NONE || what < 0 || what > 1 ? NONE : what == 0 ? best : bestMany;
    }

    public int yards(int mouth, int colour, int h) {
        if (!mouth(mouth) || !lit(colour) || h < 0 || h > 60) {
            return NONE;
        }
        int bits = 0;
        for (int yard = 0; yard < mouths(); yard++) {
            int m = yard;
            int t = 0;
            while (t < h) {
                int lamp = fade(colour, t);
                t += length(m, lamp);
                m = to(m, lamp);
            }
            bits |= t == h && m == mouth ? 1 << yard : 0;
        }
        return bits;
    }

    private int guarded() {
        int bits = 0;
        for (int m = 0; m < 8; m++) {
            bits |= w.guards[m] > 0 ? 1 << m : 0;
        }
        return bits;
    }

    private int unseenBy(int from, int to, int guarded) {
        int hours = leasts(members((1 << colours()) - 1), false, guarded, from, to)[from][to];
        return hours >= FAR ? NONE : hours;
    }

    public int unseen(int from, int to) {
        return mouth(from) && mouth(to) ? unseenBy(from, to, guarded()) : NONE;
    }

    public int posts(int from, int to) {
        if (!mouth(from) || !mouth(to) || from == to) {
            return NONE;
        }
        int best = NONE;
        for (int p = 0; p < 1 << mouths(); p++) {
            boolean free = (p & (1 << from | 1 << to)) == 0;
            boolean fewer = best == NONE || Integer.bitCount(p) < Integer.bitCount(best);
            if (free && fewer && unseenBy(from, to, guarded() | p) == NONE) {
                best = p;
            }
        }
        return best;
    }

    public int halves(int one, int other, int colours) {
        if (!mouth(one) || !mouth(other) || !set(colours)) {
            return NONE;
        }
        Map<List<Integer>, Integer> seen = new HashMap<>();
        List<List<Integer>> queue = new ArrayList<>();
        queue.add(List.of(one, other));
        seen.put(queue.get(0), 0);
        for (int i = 0; i < queue.size(); i++) {
            List<Integer> pair = queue.get(i);
            if (pair.get(0).equals(pair.get(1))) {
                return seen.get(pair);
            }
            for (int c : members(colours)) {
                List<Integer> next = List.of(to(pair.get(0), c), to(pair.get(1), c));
                if (seen.putIfAbsent(next, seen.get(pair) + 1) == null) {
                    queue.add(next);
                }
            }
        }
        return NONE;
    }

    public int smuggles(int from, int n, int colour, int mouth) {
        if (!mouth(from) || !mouth(mouth) || !colour(colour) || n < 1 || n > 9) {
            return HIDDEN;
        }
        int has = 0;
        for (int k = 1; k <= n; k++) {
            has += comes(from, colour, k) == mouth ? 0 : 1;
        }
        return has;
    }

    public int rests(int from, int n, int i) {
        if (!mouth(from) || n < 1 || n > 9 || i < -1) {
            return NONE;
        }
        List<Integer> found = new ArrayList<>();
        for (int v = 0; v < 50; v++) {
            int has = smuggles(from, n, v / 10, v % 10);
            boolean rest = has != HIDDEN;
            for (int c = 0; c < 5; c++) {
                rest &= smuggles(from, n, c, v % 10) <= has;
            }
            for (int m = 0; m < 8; m++) {
                int other = smuggles(from, n, v / 10, m);
                rest &= other == HIDDEN || other >= has;
            }
            if (rest) {
                found.add(v);
            }
        }
        return i == -1 ? found.size() : i < found.size() ? found.get(i) : NONE;
    }

    public int astray() {
        int bits = 0;
        for (int k = 0; k < w.rails.size(); k++) {
            bits |= w.rails.get(k).inside ? 1 << k : 0;
        }
        return told == null ? NONE : bits;
    }

    public int due(int train) {
        if (train < 0 || train >= w.rails.size()) {
            return NONE;
        }
        Rail r = w.rails.get(train);
        return r.inside ? r.due - w.hour : 0;
    }

    public int loops(int mouth) {
        int bits = 0;
        for (int c = 0; c < colours() && mouth(mouth); c++) {
            bits |= to(mouth, c) == mouth ? 1 << c : 0;
        }
        return mouth(mouth) ? bits : NONE;
    }

    public int safe() {
        int bits = 0;
        for (int m = 0; m < mouths(); m++) {
            boolean same = true;
            for (int c = 1; c < colours(); c++) {
                same &= to(m, c) == to(m, 0);
            }
            bits |= same ? 1 << m : 0;
        }
        return told == null ? NONE : bits;
    }

    public int visits(int mouth) {
        int times = 0;
        for (int[] entry : w.log) {
            times += entry[1] == mouth ? 1 : 0;
        }
        return mouth(mouth) ? times : NONE;
    }

    public int image() {
        if (told == null) {
            return NONE;
        }
        kept = w.copy();
        return w.hour;
    }

    public int back() {
        if (kept == null) {
            return NONE;
        }
        w = kept.copy();
        undos.clear();
        return w.hour;
    }

    public int count(int what) {
        int guardsInAll = Arrays.stream(w.guards).sum();
        int[] all = {mouths(), colours(), w.rails.size(), guardsInAll, laws.size(), tape.length(), holding,
            w.hour, w.meetings, fog, unknown().size(), laid.size(), w.log.size(), undos.size()};
        return what >= 0 && what < all.length ? all[what] : HIDDEN;
    }
}
