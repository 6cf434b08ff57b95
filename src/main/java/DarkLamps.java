import java.util.NoSuchElementException;

public final class DarkLamps {
    public static final int NONE = -1;
    public static final int HIDDEN = -1000000;

    private static final int UNLIT = 5;
    private static final int MOST_MOUTHS = 8;
    private static final int MOST_COLOURS = 5;
    private static final int MOST_DARKS = 40;
    private static final int SORT_NET = 0;
    private static final int SORT_LAW = 1;
    private static final int NO_FAULT_SORT = -2;

    private final Tape tape = new Tape();
    private final Net net = new Net();
    private final Net draft = new Net();
    private final NetReader netReader = new NetReader(tape, draft);
    private final Laws laws = new Laws();
    private final LawReader lawReader = new LawReader(tape, laws);
    private final Moment now = new Moment();
    private final Acts acts = new Acts(now);
    private final Ways ways = new Ways(net, laws, now);
    private final Hours hours = new Hours(net, now, acts, ways);
    private final Strings strings = new Strings(net, now);
    private final Plans plans = new Plans(net, ways);

    public DarkLamps() {
    }

    public int feed(int a, int b, int c, int d, int e) {
        return tape.add(a, b, c, d, e) ? tape.size() : NONE;
    }

    public boolean end(int n) {
        return tape.cut(n);
    }

    public int fault(int sort) {
        if (sort == SORT_NET) {
            return netReader.firstFault();
        }
        return sort == SORT_LAW ? lawReader.firstFault() : NO_FAULT_SORT;
    }

    public int text(int sort) {
        if (sort == SORT_NET && netReader.firstFault() == NONE) {
            tape.cut(0);
            net.become(draft);
            now.begin(net);
            acts.forget();
            strings.forget();
            return net.mouths();
        }
        if (sort == SORT_LAW && !laws.areFull() && lawReader.firstFault() == NONE) {
            tape.cut(0);
            return laws.keepDraft();
        }
        return NONE;
    }

    public int dark(int mouth, int colour, int what) {
        if (!net.hasMouth(mouth) || !net.hasLamp(colour)) {
            return NONE;
        }
        switch (what) {
            case 0:
                return ways.isUnknown(mouth, colour) ? HIDDEN : ways.leadsTo(mouth, colour);
            case 1:
                return ways.takes(mouth, colour);
            case 2:
                return ways.priceOf(mouth, colour);
            default:
                return NONE;
        }
    }

    public int train(int train, int what) throws NoSuchElementException {
        if (!now.hasTrain(train) || what < 0 || what > 3) {
            throw new NoSuchElementException();
        }
        switch (what) {
            case 0:
                return now.ofTrain(train, Moment.MOUTH);
            case 1:
                return hours.lampOf(train);
            case 2:
                return now.ofTrain(train, Moment.TO_GO);
            default:
                return now.ofTrain(train, Moment.INSIDE);
        }
    }

    public int guards(int mouth) {
        return net.hasMouth(mouth) ? now.guardsAt(mouth) : NONE;
    }

    public boolean law(int law) {
        return laws.choose(law);
    }

    public int sent(int mouth, int colour, int darks) {
        if (!net.hasMouth(mouth) || !net.hasLamp(colour) || darks < 0 || darks > 9 || now.isFull()) {
            return NONE;
        }
        acts.keep();
        return now.addTrain(mouth, colour, 0, darks);
    }

    public int lamp(int train, int colour) {
        if (!now.hasTrain(train) || !net.hasLamp(colour) || now.ofTrain(train, Moment.INSIDE) == 1) {
            return NONE;
        }
        int had = hours.lampOf(train);
        acts.keep();
        now.relight(train, colour);
        return had;
    }

    public int show(int mouth, int colour, int to) {
        if (!net.hasMouth(mouth) || !net.hasColour(colour) || !net.hasMouth(to)) {
            return NONE;
        }
        int led = now.leads(mouth, colour);
        if (led == to) {
            return NONE;
        }
        acts.keep();
        now.lead(mouth, colour, to);
        return led == NONE ? HIDDEN : led;
    }

    public int guard(int mouth, boolean comes) {
        if (!net.hasMouth(mouth)) {
            return NONE;
        }
        int many = now.guardsAt(mouth) + (comes ? 1 : -1);
        if (many < 0 || many > 9) {
            return NONE;
        }
        acts.keep();
        now.setGuards(mouth, many);
        return many;
    }

    public int go(int n) {
        return hours.canPass(n) ? hours.passByHand(n) : NONE;
    }

    public boolean fogs(int v) {
        return hours.setFogs(v);
    }

    public int years(int n, long seed) {
        return hours.canPass(n) ? hours.passByDraws(n, seed) : NONE;
    }

    public int undo() {
        return acts.takeBack();
    }

    public int log(int i, int what) {
        return now.logged(i, what);
    }

    public int comes(int mouth, int colour, int n) {
        if (!net.hasMouth(mouth) || !net.hasLamp(colour) || n < 0 || n > 99) {
            return NONE;
        }
        return ways.behind(mouth, colour, n);
    }

    public int round(int mouth, int colour, int what) {
        if (!net.hasMouth(mouth) || !net.hasLamp(colour) || what < 0 || what > 1) {
            return NONE;
        }
        int circle = ways.circleLength(mouth, colour);
        return what == 1 ? circle : ways.stepsToCircle(mouth, colour, circle);
    }

    private boolean areAsked(int from, int to, int colours) {
        return net.hasMouth(from) && net.hasMouth(to) && net.hasSet(colours);
    }

    public int changes(int from, int to, int colours) {
        return areAsked(from, to, colours) ? ways.fewestChanges(from, to, colours) : NONE;
    }

    public int soonest(int from, int to, int colours, int what) {
        if (!areAsked(from, to, colours) || what < 0 || what > 1) {
            return NONE;
        }
        return what == 0 ? ways.fewestHours(from, to, colours) : ways.firstOfSoonest(from, to, colours);
    }

    public int cheapest(int from, int to, int colours) {
        return areAsked(from, to, colours) ? ways.leastPrices(from, to, colours) : NONE;
    }

    public int reached(int from, int colours) {
        return net.hasMouth(from) && net.hasSet(colours) ? ways.reachedFrom(from, colours) : NONE;
    }

    public int lamps() {
        return net.isTold() ? ways.fewestLamps() : NONE;
    }

    public int timetable(int what) {
        if (!net.isTold() || what < 0 || what > 1) {
            return NONE;
        }
        return what == 0 ? plans.leastDelay() : plans.delayDigits();
    }

    public int clashes() {
        return net.isTold() ? plans.clashesAsTold() : NONE;
    }

    public int lay(int mouth, int colour, int k, int to) {
        if (!net.hasMouth(mouth) || !net.hasColour(colour) || !net.hasMouth(to)) {
            return NONE;
        }
        return k >= 1 && k <= 4 ? strings.add(mouth, colour, k, to) : NONE;
    }

    public int nets(int i) {
        if (!net.isTold() || i < NONE) {
            return NONE;
        }
        return i == NONE ? strings.countNets() : strings.netAt(i);
    }

    public int could(int i) {
        return i >= 0 && i < strings.unknownNow() ? strings.couldLead(i) : NONE;
    }

    public int tells(int what) {
        if (what < 0 || what > 1 || strings.unknownNow() == 0) {
            return NONE;
        }
        int telling = strings.mostTelling();
        return what == 0 || telling == NONE ? telling : strings.mostOften(telling);
    }

    public int yards(int mouth, int colour, int h) {
        if (!net.hasMouth(mouth) || !net.hasLamp(colour) || h < 0 || h > 60) {
            return NONE;
        }
        return hours.yardsOf(mouth, colour, h);
    }

    public int unseen(int from, int to) {
        return net.hasMouth(from) && net.hasMouth(to) ? ways.fewestHoursUnseen(from, to) : NONE;
    }

    public int posts(int from, int to) {
        if (!net.hasMouth(from) || !net.hasMouth(to) || from == to) {
            return NONE;
        }
        return ways.fewestPosts(from, to);
    }

    public int halves(int one, int other, int colours) {
        return areAsked(one, other, colours) ? ways.fewestTogether(one, other, colours) : NONE;
    }

    public int smuggles(int from, int n, int colour, int mouth) {
        if (!net.hasMouth(from) || !net.hasColour(colour) || !net.hasMouth(mouth) || n < 1 || n > 9) {
            return HIDDEN;
        }
        return plans.notMet(from, n, colour, mouth);
    }

    public int rests(int from, int n, int i) {
        if (!net.hasMouth(from) || n < 1 || n > 9 || i < NONE) {
            return NONE;
        }
        return i == NONE ? plans.countRests(from, n) : plans.restAt(from, n, i);
    }

    public int astray() {
        return net.isTold() ? now.trainsInside() : NONE;
    }

    public int due(int train) {
        return now.hasTrain(train) ? now.hoursTillOut(train) : NONE;
    }

    public int loops(int mouth) {
        return net.hasMouth(mouth) ? ways.loopsAt(mouth) : NONE;
    }

    public int safe() {
        return net.isTold() ? ways.sameByAll() : NONE;
    }

    public int visits(int mouth) {
        return net.hasMouth(mouth) ? now.timesOut(mouth) : NONE;
    }

    public int image() {
        if (!net.isTold()) {
            return NONE;
        }
        acts.keepImage();
        return now.hour();
    }

    public int back() {
        return acts.bringBack() ? now.hour() : NONE;
    }

    public int count(int what) {
        switch (what) {
            case 0:
                return net.mouths();
            case 1:
                return net.colours();
            case 2:
                return now.trains();
            case 3:
                return now.guardsInAll();
            case 4:
                return laws.many();
            case 5:
                return tape.size();
            case 6:
                return laws.holding();
            case 7:
                return now.hour();
            default:
                return countMore(what);
        }
    }

    private int countMore(int what) {
        switch (what) {
            case 8:
                return now.meetings();
            case 9:
                return hours.fogLevel();
            case 10:
                return strings.unknownNow();
            case 11:
                return strings.many();
            case 12:
                return now.logLength();
            case 13:
                return acts.many();
            default:
                return HIDDEN;
        }
    }

    /* Rows are read and written through these, so that no index can leave its row. */
    private static int at(int[] row, int i) {
        return i >= 0 && i < row.length ? row[i] : 0;
    }

    private static void put(int[] row, int i, int value) {
        if (i >= 0 && i < row.length) {
            row[i] = value;
        }
    }

    private static void copy(int[] from, int[] to) {
        System.arraycopy(from, 0, to, 0, Math.min(from.length, to.length));
    }

    private static int darkOf(int mouth, int colour) {
        return mouth * MOST_COLOURS + colour;
    }

    private static boolean holds(int bits, int i) {
        return (bits >> i & 1) == 1;
    }

    private static int faded(int colour, int age, int fade) {
        if (colour == UNLIT || fade <= 0 || age < 0) {
            return colour;
        }
        int left = colour - age / fade;
        return left < 0 ? UNLIT : left;
    }

    /** The bytes fed, and a head that reads them sign by sign until the first fault. */
    private static final class Tape {
        static final int MOST = 240;
        static final int NO_SIGN = -1;
        private static final int BLANK = 32;

        private final int[] bytes = new int[MOST];
        private int length = 0;
        private int head = 0;
        private int faultPlace = NONE;

        int size() {
            return length;
        }

        boolean add(int a, int b, int c, int d, int e) {
            int more = bytesIn(a) + bytesIn(b) + bytesIn(c) + bytesIn(d) + bytesIn(e);
            if (length + more > MOST) {
                return false;
            }
            append(a);
            append(b);
            append(c);
            append(d);
            append(e);
            return true;
        }

        private static int bytesIn(int word) {
            int many = 0;
            for (int shift = 24; shift >= 0; shift -= 8) {
                many += (word >>> shift & 255) != 0 ? 1 : 0;
            }
            return many;
        }

        private void append(int word) {
            for (int shift = 24; shift >= 0; shift -= 8) {
                int sign = word >>> shift & 255;
                if (sign != 0) {
                    put(bytes, length, sign);
                    length++;
                }
            }
        }

        boolean cut(int n) {
            if (n < 0 || n > length) {
                return false;
            }
            length = n;
            return true;
        }

        void rewind() {
            head = 0;
            faultPlace = NONE;
        }

        int firstFault() {
            return faultPlace;
        }

        boolean isFaulty() {
            return faultPlace != NONE;
        }

        /* Callers have looked at the sign ahead, so the head stands at it and not at a blank. */
        void fail() {
            if (faultPlace == NONE) {
                faultPlace = head;
            }
        }

        void failAtEnd() {
            if (faultPlace == NONE) {
                faultPlace = length;
            }
        }

        /* Behind a fault there are no more signs, so that every reader stops by itself. */
        int sign() {
            if (faultPlace != NONE) {
                return NO_SIGN;
            }
            int end = Math.min(length, bytes.length);
            while (head >= 0 && head < end && bytes[head] == BLANK) {
                head++;
            }
            return head >= 0 && head < end ? bytes[head] : NO_SIGN;
        }

        boolean take(int sign) {
            boolean isNext = sign() == sign;
            head += isNext ? 1 : 0;
            return isNext;
        }

        void need(int sign) {
            if (sign() == sign) {
                head++;
            } else {
                fail();
            }
        }

        /* Whether a ; leads to one more CLAUSE; anything else but the end is a fault. */
        boolean goesOn() {
            if (sign() == NO_SIGN) {
                return false;
            }
            need(';');
            return !isFaulty();
        }

        private boolean isDigitHere() {
            return head < length && at(bytes, head) >= '0' && at(bytes, head) <= '9';
        }

        int number(int digits) {
            int value = 0;
            if (sign() == NO_SIGN || !isDigitHere()) {
                fail();
            }
            for (int n = 0; n < digits && !isFaulty() && isDigitHere(); n++) {
                value = value * 10 + at(bytes, head) - '0';
                head++;
            }
            if (isDigitHere()) {
                fail();
            }
            return value;
        }

        int numberWithin(int digits, int least, int most) {
            int value = number(digits);
            if (!isFaulty() && (value < least || value > most)) {
                faultPlace = head - 1;
            }
            return value;
        }
    }

    /** A NET as it was told: rows of items by kind (the NET itself, TUNNELS, TRAINS, GUARDS). */
    private static final class Net {
        static final int SELF = 0;
        static final int TUNNEL = 1;
        static final int TRAIN = 2;
        static final int GUARD = 3;
        static final int SLOTS = 4;
        static final int NOT_KNOWN = 8;
        private static final int MOST_NOT_KNOWN = 4;
        private static final int ROWS = 29;
        private static final int[] FIRST = {0, 1, 19, 25, 29};

        private final int[] items = new int[ROWS * SLOTS];
        private final int[] many = new int[SLOTS];
        private final int[] lengths = new int[MOST_DARKS];

        int item(int kind, int i, int slot) {
            return at(items, (at(FIRST, kind) + i) * SLOTS + slot);
        }

        int many(int kind) {
            return at(many, kind);
        }

        boolean isFull(int kind) {
            return many(kind) >= at(FIRST, kind + 1) - at(FIRST, kind);
        }

        void empty() {
            for (int kind = 0; kind < many.length; kind++) {
                put(many, kind, 0);
            }
        }

        void store(int kind, int[] values) {
            int start = (at(FIRST, kind) + many(kind)) * SLOTS;
            for (int slot = 0; slot < SLOTS; slot++) {
                put(items, start + slot, at(values, slot));
            }
            put(many, kind, many(kind) + 1);
        }

        void become(Net other) {
            copy(other.items, items);
            copy(other.many, many);
            for (int dark = 0; dark < MOST_DARKS; dark++) {
                put(lengths, dark, 1);
            }
            for (int i = 0; i < many(TUNNEL); i++) {
                put(lengths, darkOfTunnel(i), item(TUNNEL, i, 3));
            }
        }

        // The NET itself has the first row of all.
        int mouths() {
            return at(items, 0);
        }

        int colours() {
            return at(items, 1);
        }

        int hour() {
            return at(items, 2);
        }

        int fade() {
            return at(items, 3);
        }

        boolean isTold() {
            return mouths() > 0;
        }

        boolean hasMouth(int mouth) {
            return mouth >= 0 && mouth < mouths();
        }

        boolean hasColour(int colour) {
            return colour >= 0 && colour < colours();
        }

        boolean hasLamp(int colour) {
            return colour == UNLIT || hasColour(colour);
        }

        boolean hasSet(int bits) {
            return bits > 0 && bits <= allColours();
        }

        int allColours() {
            return (1 << colours()) - 1;
        }

        int darkOfTunnel(int i) {
            return darkOf(item(TUNNEL, i, 0), item(TUNNEL, i, 1));
        }

        int lengthOf(int mouth, int colour) {
            return at(lengths, darkOf(mouth, colour));
        }

        boolean isSound() {
            return areTunnelsSound() && areTrainsSound() && areGuardsSound();
        }

        private boolean areTunnelsSound() {
            long told = 0;
            int unknown = 0;
            for (int i = 0; i < many(TUNNEL); i++) {
                int to = item(TUNNEL, i, 2);
                long dark = 1L << darkOfTunnel(i);
                if (!hasMouth(item(TUNNEL, i, 0)) || !hasColour(item(TUNNEL, i, 1)) || (told & dark) != 0) {
                    return false;
                }
                if (to != NOT_KNOWN && !hasMouth(to)) {
                    return false;
                }
                told |= dark;
                unknown += to == NOT_KNOWN ? 1 : 0;
            }
            return unknown <= MOST_NOT_KNOWN;
        }

        private boolean areTrainsSound() {
            for (int i = 0; i < many(TRAIN); i++) {
                if (!hasMouth(item(TRAIN, i, 0)) || !hasLamp(item(TRAIN, i, 1))) {
                    return false;
                }
            }
            return true;
        }

        private boolean areGuardsSound() {
            for (int i = 0; i < many(GUARD); i++) {
                if (!hasMouth(item(GUARD, i, 0))) {
                    return false;
                }
            }
            return true;
        }
    }

    /** Reads the TAPE as a NET into a draft. */
    private static final class NetReader {
        private static final char[] KINDS = {'n', 't', 'r', 'g'};
        private static final int[] LETTERS = {'m', 'c', 'h', 'f', 'a', 'c', 'b', 'l', 'a', 'c', 'h', 'd', 'a', 0, 0, 0};
        private static final int[] LEAST = {1, 1, 0, 0, 0, 0, 0, 1, 0, 0, 0, 0, 0, 0, 0, 0};
        private static final int[] MOST = {8, 5, 23, 9, 7, 4, 8, 9, 7, 5, 99, 9, 7, 0, 0, 0};
        private static final int[] USUAL = {4, 3, 0, 0, 0, 0, 1, 1, 0, 0, 0, 3, 0, 0, 0, 0};

        private final Tape tape;
        private final Net draft;
        private final int[] values = new int[Net.SLOTS];

        NetReader(Tape tape, Net draft) {
            this.tape = tape;
            this.draft = draft;
        }

        int firstFault() {
            tape.rewind();
            draft.empty();
            boolean goesOn = true;
            for (int i = 0; i <= Tape.MOST && goesOn; i++) {
                readClause();
                goesOn = tape.goesOn();
            }
            sizeIfUntold();
            if (!draft.isSound()) {
                tape.failAtEnd();
            }
            return tape.firstFault();
        }

        private void sizeIfUntold() {
            if (draft.many(Net.SELF) == 0) {
                setUsual(Net.SELF);
                draft.store(Net.SELF, values);
            }
        }

        private void setUsual(int kind) {
            for (int slot = 0; slot < Net.SLOTS; slot++) {
                put(values, slot, at(USUAL, kind * Net.SLOTS + slot));
            }
        }

        private void readClause() {
            int sign = tape.sign();
            int kind = kindOf(sign);
            if (kind == NONE || draft.isFull(kind)) {
                tape.fail();
                return;
            }
            tape.take(sign);
            setUsual(kind);
            readItems(kind);
            if (!tape.isFaulty()) {
                draft.store(kind, values);
            }
        }

        private static int kindOf(int sign) {
            for (int kind = 0; kind < KINDS.length; kind++) {
                if (KINDS[kind] == sign) {
                    return kind;
                }
            }
            return NONE;
        }

        private void readItems(int kind) {
            int had = 0;
            for (int i = 0; i <= Net.SLOTS; i++) {
                int sign = tape.sign();
                int slot = slotOf(kind, sign);
                if (slot == NONE) {
                    return;
                }
                if (holds(had, slot)) {
                    tape.fail();
                    return;
                }
                had |= 1 << slot;
                tape.take(sign);
                int place = kind * Net.SLOTS + slot;
                put(values, slot, tape.numberWithin(2, at(LEAST, place), at(MOST, place)));
            }
        }

        private static int slotOf(int kind, int sign) {
            for (int slot = 0; slot < Net.SLOTS; slot++) {
                int letter = at(LETTERS, kind * Net.SLOTS + slot);
                if (letter != 0 && letter == sign) {
                    return slot;
                }
            }
            return NONE;
        }
    }

    /** The LAWS as codes: a number is itself, a sign is its own number below 0, operands stand ahead. */
    private static final class Laws {
        private static final int MOST = 4;
        private static final int BOUND = 1000000;

        // One row more than LAWS, as the free one is the draft.
        private final int[] codes = new int[(MOST + 1) * Tape.MOST];
        private final int[] ends = new int[MOST + 1];
        private final int[] stack = new int[64];
        private int height = 0;
        private int many = 0;
        private int holding = NONE;

        int many() {
            return many;
        }

        int holding() {
            return holding;
        }

        boolean areFull() {
            return many >= MOST;
        }

        boolean choose(int law) {
            if (law < NONE || law >= many) {
                return false;
            }
            holding = law;
            return true;
        }

        void beginDraft() {
            put(ends, many, 0);
        }

        void write(int code) {
            int end = at(ends, many);
            if (end < Tape.MOST) {
                put(codes, many * Tape.MOST + end, code);
                put(ends, many, end + 1);
            }
        }

        int keepDraft() {
            many++;
            return many - 1;
        }

        int worth(int colour, int length, int from, int to, int guards) {
            int start = holding * Tape.MOST;
            int end = start + at(ends, holding);
            boolean passesOver = false;
            height = 0;
            for (int i = start; i < end; i++) {
                int code = at(codes, i);
                if (passesOver) {
                    passesOver = code != -';';
                    continue;
                }
                switch (code) {
                    case -'c': push(colour); break;
                    case -'l': push(length); break;
                    case -'a': push(from); break;
                    case -'b': push(to); break;
                    case -'g': push(guards); break;
                    case -'!': push(1 - pop()); break;
                    case -'?': passesOver = pop() == 0; break;
                    case -';': return pop();
                    default: push(code >= 0 ? code : joined(-code, pop(), pop()));
                }
            }
            return 0;
        }

        private void push(int value) {
            put(stack, height, value);
            height++;
        }

        private int pop() {
            if (height > 0) {
                height--;
            }
            return at(stack, height);
        }

        /* The right one comes first, as it was pushed last. */
        private static int joined(int sign, int right, int left) {
            switch (sign) {
                case '+': return bounded((long) left + right);
                case '-': return bounded((long) left - right);
                case '*': return bounded((long) left * right);
                case '/': return right == 0 ? 0 : bounded((long) left / right);
                case '=': return left == right ? 1 : 0;
                case '<': return left < right ? 1 : 0;
                case '>': return left > right ? 1 : 0;
                case '&': return left & right;
                default: return left | right;
            }
        }

        private static int bounded(long value) {
            return (int) Math.max(-BOUND, Math.min(BOUND, value));
        }
    }

    /** Reads the TAPE as a LAW and writes its codes into the draft of the LAWS. */
    private static final class LawReader {
        private static final int MOST_DEPTH = 6;
        private static final int DIGITS = 4;

        private final Tape tape;
        private final Laws laws;

        LawReader(Tape tape, Laws laws) {
            this.tape = tape;
            this.laws = laws;
        }

        int firstFault() {
            tape.rewind();
            laws.beginDraft();
            boolean goesOn = true;
            for (int i = 0; i <= Tape.MOST && goesOn; i++) {
                readClause();
                goesOn = tape.goesOn();
            }
            return tape.firstFault();
        }

        private void readClause() {
            tape.need('y');
            tape.need(':');
            int sign = tape.sign();
            boolean hasCondition = sign == '!' || sign == '(';
            if (hasCondition) {
                readCondition(0);
            } else {
                readSum(0);
                hasCondition = isComparing(tape.sign());
                if (hasCondition) {
                    readComparison(0);
                    readMoreUnits(0);
                    readMoreTruths(0);
                }
            }
            if (hasCondition) {
                tape.need('?');
                laws.write(-'?');
                readSum(0);
            }
            laws.write(-';');
        }

        private static boolean isComparing(int sign) {
            return sign == '=' || sign == '<' || sign == '>';
        }

        /* One more of ( [ ! is opened, if that is not one too many. */
        private boolean opens(int sign, int depth) {
            if (depth >= MOST_DEPTH) {
                tape.fail();
                return false;
            }
            return tape.take(sign);
        }

        private void readCondition(int depth) {
            readUnit(depth);
            readMoreUnits(depth);
            readMoreTruths(depth);
        }

        private void readMoreTruths(int depth) {
            for (int i = 0; i < Tape.MOST && tape.take('|'); i++) {
                readUnit(depth);
                readMoreUnits(depth);
                laws.write(-'|');
            }
        }

        private void readMoreUnits(int depth) {
            for (int i = 0; i < Tape.MOST && tape.take('&'); i++) {
                readUnit(depth);
                laws.write(-'&');
            }
        }

        private void readUnit(int depth) {
            int sign = tape.sign();
            if (sign == '!') {
                if (opens(sign, depth)) {
                    readUnit(depth + 1);
                    laws.write(-'!');
                }
            } else if (sign == '(') {
                if (opens(sign, depth)) {
                    readCondition(depth + 1);
                    tape.need(')');
                }
            } else {
                readSum(depth);
                readComparison(depth);
            }
        }

        private void readComparison(int depth) {
            int sign = tape.sign();
            if (!isComparing(sign)) {
                tape.fail();
                return;
            }
            tape.take(sign);
            readSum(depth);
            laws.write(-sign);
        }

        private void readSum(int depth) {
            readTerm(depth);
            for (int i = 0; i < Tape.MOST; i++) {
                int sign = tape.sign();
                if (sign != '+' && sign != '-') {
                    return;
                }
                tape.take(sign);
                readTerm(depth);
                laws.write(-sign);
            }
        }

        private void readTerm(int depth) {
            readAtom(depth);
            for (int i = 0; i < Tape.MOST; i++) {
                int sign = tape.sign();
                if (sign != '*' && sign != '/') {
                    return;
                }
                tape.take(sign);
                readAtom(depth);
                laws.write(-sign);
            }
        }

        private void readAtom(int depth) {
            int sign = tape.sign();
            if (sign == '[') {
                if (opens(sign, depth)) {
                    readSum(depth + 1);
                    tape.need(']');
                }
            } else if (isLetter(sign)) {
                tape.take(sign);
                laws.write(-sign);
            } else {
                laws.write(tape.number(DIGITS));
            }
        }

        private static boolean isLetter(int sign) {
            return sign == 'c' || sign == 'l' || sign == 'a' || sign == 'b' || sign == 'g';
        }
    }

    /** All that ACTS change and IMAGES keep: TRAINS, where DARKS lead, GUARDS, HOUR, MEETINGS, LOG. */
    private static final class Moment {
        static final int MOUTH = 0;
        static final int COLOUR = 1;
        static final int START = 2;
        static final int FADES_FROM = 3;
        static final int TO_GO = 4;
        static final int INSIDE = 5;
        static final int DUE = 6;
        private static final int SLOTS = 7;
        private static final int MOST_TRAINS = 8;
        private static final int MOST_LOG = 60;

        private final int[] ofTrains = new int[MOST_TRAINS * SLOTS];
        private final int[] leads = new int[MOST_DARKS];
        private final int[] guards = new int[MOST_MOUTHS];
        private final int[] log = new int[MOST_LOG];
        private int trains = 0;
        private int hour = 0;
        private int meetings = 0;
        private int outs = 0;

        void become(Moment other) {
            copy(other.ofTrains, ofTrains);
            copy(other.leads, leads);
            copy(other.guards, guards);
            copy(other.log, log);
            trains = other.trains;
            hour = other.hour;
            meetings = other.meetings;
            outs = other.outs;
        }

        void begin(Net net) {
            trains = 0;
            hour = net.hour();
            meetings = 0;
            outs = 0;
            beginDarks(net);
            for (int i = 0; i < net.many(Net.TRAIN); i++) {
                addTrain(net.item(Net.TRAIN, i, 0), net.item(Net.TRAIN, i, 1),
                        net.item(Net.TRAIN, i, 2), net.item(Net.TRAIN, i, 3));
            }
            for (int mouth = 0; mouth < MOST_MOUTHS; mouth++) {
                put(guards, mouth, 0);
            }
            for (int i = 0; i < net.many(Net.GUARD); i++) {
                int mouth = net.item(Net.GUARD, i, 0);
                put(guards, mouth, guardsAt(mouth) + 1);
            }
        }

        private void beginDarks(Net net) {
            for (int mouth = 0; mouth < MOST_MOUTHS; mouth++) {
                for (int colour = 0; colour < MOST_COLOURS; colour++) {
                    lead(mouth, colour, mouth);
                }
            }
            for (int i = 0; i < net.many(Net.TUNNEL); i++) {
                int to = net.item(Net.TUNNEL, i, 2);
                put(leads, net.darkOfTunnel(i), to == Net.NOT_KNOWN ? NONE : to);
            }
        }

        int hour() {
            return hour;
        }

        void passHour() {
            hour++;
        }

        int trains() {
            return trains;
        }

        boolean isFull() {
            return trains >= MOST_TRAINS;
        }

        boolean hasTrain(int train) {
            return train >= 0 && train < trains;
        }

        int ofTrain(int train, int slot) {
            return at(ofTrains, train * SLOTS + slot);
        }

        private void setTrain(int train, int slot, int value) {
            put(ofTrains, train * SLOTS + slot, value);
        }

        int addTrain(int mouth, int colour, int wait, int darks) {
            int train = trains;
            trains++;
            setTrain(train, MOUTH, mouth);
            setTrain(train, COLOUR, colour);
            setTrain(train, START, hour + wait);
            setTrain(train, FADES_FROM, hour + wait);
            setTrain(train, TO_GO, darks);
            setTrain(train, INSIDE, 0);
            setTrain(train, DUE, 0);
            return train;
        }

        void relight(int train, int colour) {
            setTrain(train, COLOUR, colour);
            setTrain(train, FADES_FROM, hour);
        }

        boolean isReady(int train) {
            return ofTrain(train, INSIDE) == 0 && ofTrain(train, TO_GO) > 0 && ofTrain(train, START) <= hour;
        }

        boolean comesOutNow(int train) {
            return ofTrain(train, INSIDE) == 1 && ofTrain(train, DUE) == hour;
        }

        void enter(int train, int to, int length) {
            setTrain(train, MOUTH, to);
            setTrain(train, DUE, hour + length);
            setTrain(train, INSIDE, 1);
            setTrain(train, TO_GO, ofTrain(train, TO_GO) - 1);
        }

        void comeOut(int train, int mouth) {
            setTrain(train, MOUTH, mouth);
            setTrain(train, INSIDE, 0);
            put(log, outs % MOST_LOG, (hour * MOST_MOUTHS + mouth) * MOST_TRAINS + train);
            outs++;
        }

        int trainsInside() {
            int bits = 0;
            for (int train = 0; train < trains; train++) {
                bits |= ofTrain(train, INSIDE) << train;
            }
            return bits;
        }

        int hoursTillOut(int train) {
            return ofTrain(train, INSIDE) == 1 ? ofTrain(train, DUE) - hour : 0;
        }

        int meetings() {
            return meetings;
        }

        void addMeetings(int more) {
            meetings += more;
        }

        int guardsAt(int mouth) {
            return at(guards, mouth);
        }

        void setGuards(int mouth, int many) {
            put(guards, mouth, many);
        }

        int guardsInAll() {
            int all = 0;
            for (int mouth = 0; mouth < MOST_MOUTHS; mouth++) {
                all += guardsAt(mouth);
            }
            return all;
        }

        int leads(int mouth, int colour) {
            return at(leads, darkOf(mouth, colour));
        }

        void lead(int mouth, int colour, int to) {
            put(leads, darkOf(mouth, colour), to);
        }

        int leadsOfDark(int dark) {
            return at(leads, dark);
        }

        int logLength() {
            return Math.min(outs, MOST_LOG);
        }

        int logged(int i, int what) {
            if (i < 0 || i >= logLength() || what < 0 || what > 2) {
                return NONE;
            }
            int entry = at(log, (outs - 1 - i) % MOST_LOG);
            if (what == 0) {
                return entry % MOST_TRAINS;
            }
            int placed = entry / MOST_TRAINS;
            return what == 1 ? placed % MOST_MOUTHS : placed / MOST_MOUTHS;
        }

        int timesOut(int mouth) {
            int times = 0;
            for (int i = 0; i < logLength(); i++) {
                times += logged(i, 1) == mouth ? 1 : 0;
            }
            return times;
        }
    }

    /** The moments ahead of the latest ACTS, and the one of the IMAGE. */
    private static final class Acts {
        private static final int MOST = 40;

        private final Moment now;
        private final Moment[] ahead = new Moment[MOST];
        private final Moment image = new Moment();
        private boolean hasImage = false;
        private int many = 0;
        private int next = 0;

        Acts(Moment now) {
            this.now = now;
        }

        int many() {
            return many;
        }

        void forget() {
            many = 0;
            hasImage = false;
        }

        /* Moments are made once each, when first used, as most runs need few of them. */
        private Moment aheadAt(int i) {
            boolean isIn = i >= 0 && i < ahead.length;
            Moment moment = isIn ? ahead[i] : null;
            if (moment == null) {
                moment = new Moment();
                if (isIn) {
                    ahead[i] = moment;
                }
            }
            return moment;
        }

        void keep() {
            aheadAt(next).become(now);
            next = (next + 1) % MOST;
            many = Math.min(many + 1, MOST);
        }

        int takeBack() {
            if (many == 0) {
                return NONE;
            }
            next = (next + MOST - 1) % MOST;
            now.become(aheadAt(next));
            many--;
            return many;
        }

        void keepImage() {
            image.become(now);
            hasImage = true;
        }

        boolean bringBack() {
            if (!hasImage) {
                return false;
            }
            now.become(image);
            many = 0;
            return true;
        }
    }

    /** HOURS that go by, by hand and by draws, and LAMPS that fade. */
    private static final class Hours {
        private static final int MOST_AT_ONCE = 200;
        private static final int LAST = 9999;
        private static final int DAY = 24;
        private static final int DAWN = 6;
        private static final long TIMES = 6364136223846793005L;
        private static final long MORE = 1442695040888963407L;

        private final Net net;
        private final Moment now;
        private final Acts acts;
        private final Ways ways;
        private final int[] outAt = new int[MOST_MOUTHS];
        private int fogLevel = 0;
        private long x = 0;

        Hours(Net net, Moment now, Acts acts, Ways ways) {
            this.net = net;
            this.now = now;
            this.acts = acts;
            this.ways = ways;
        }

        int fogLevel() {
            return fogLevel;
        }

        boolean setFogs(int v) {
            if (v < 0 || v > 99 || v == fogLevel) {
                return false;
            }
            fogLevel = v;
            return true;
        }

        int lampOf(int train) {
            int age = now.hour() - now.ofTrain(train, Moment.FADES_FROM);
            return faded(now.ofTrain(train, Moment.COLOUR), age, net.fade());
        }

        boolean canPass(int n) {
            return net.isTold() && n >= 1 && n <= MOST_AT_ONCE && now.hour() + n <= LAST;
        }

        int passByHand(int n) {
            for (int i = 0; i < n; i++) {
                passHour(false, false);
            }
            return now.hour();
        }

        int passByDraws(int n, long seed) {
            x = seed;
            for (int i = 0; i < n; i++) {
                boolean fog = draw(100) < fogLevel;
                passHour(fog, now.hour() % DAY == DAWN);
            }
            return now.hour();
        }

        private int draw(int k) {
            x = x * TIMES + MORE;
            return k > 0 ? (int) ((x >>> 33) % k) : 0;
        }

        private void passHour(boolean fog, boolean dawn) {
            acts.keep();
            comeOut(dawn);
            if (!fog) {
                goIn();
            }
            meet();
            now.passHour();
        }

        private void comeOut(boolean dawn) {
            for (int mouth = 0; mouth < MOST_MOUTHS; mouth++) {
                put(outAt, mouth, 0);
            }
            for (int train = 0; train < now.trains(); train++) {
                if (now.comesOutNow(train)) {
                    int mouth = dawn ? draw(net.mouths()) : now.ofTrain(train, Moment.MOUTH);
                    now.comeOut(train, mouth);
                    put(outAt, mouth, at(outAt, mouth) + 1);
                }
            }
        }

        private void goIn() {
            for (int train = 0; train < now.trains(); train++) {
                if (now.isReady(train)) {
                    int mouth = now.ofTrain(train, Moment.MOUTH);
                    int lamp = lampOf(train);
                    now.enter(train, ways.leadsTo(mouth, lamp), ways.takes(mouth, lamp));
                }
            }
        }

        private void meet() {
            for (int mouth = 0; mouth < MOST_MOUTHS; mouth++) {
                int many = at(outAt, mouth);
                now.addMeetings(many * (many - 1) / 2);
            }
        }

        int yardsOf(int mouth, int colour, int h) {
            int bits = 0;
            for (int yard = 0; yard < net.mouths(); yard++) {
                if (mouthOutAfter(yard, colour, h) == mouth) {
                    bits |= 1 << yard;
                }
            }
            return bits;
        }

        private int mouthOutAfter(int yard, int colour, int h) {
            int mouth = yard;
            int age = 0;
            for (int darks = 0; darks < h && age < h; darks++) {
                int lamp = faded(colour, age, net.fade());
                age += ways.takes(mouth, lamp);
                mouth = ways.leadsTo(mouth, lamp);
            }
            return age == h ? mouth : NONE;
        }
    }

    /** What the NET as it is now answers: DARKS, ways, what is seen on them. */
    private static final class Ways {
        private static final int NEVER = 1000000;
        private static final int MOST_PRICE = 99;
        private static final int BY_HOURS = 0;
        private static final int BY_PRICES = 1;
        // Bit 8 * one + other stands for two at two MOUTHS; these are the bits of two at one MOUTH.
        private static final long TOGETHER = 0x8040201008040201L;

        private final Net net;
        private final Laws laws;
        private final Moment now;
        private final int[] far = new int[MOST_MOUTHS];
        private final int[] nexts = new int[MOST_MOUTHS];

        Ways(Net net, Laws laws, Moment now) {
            this.net = net;
            this.laws = laws;
            this.now = now;
        }

        boolean isUnknown(int mouth, int colour) {
            return colour != UNLIT && now.leads(mouth, colour) == NONE;
        }

        int leadsTo(int mouth, int colour) {
            int to = colour == UNLIT ? NONE : now.leads(mouth, colour);
            return to == NONE ? mouth : to;
        }

        int takes(int mouth, int colour) {
            int to = colour == UNLIT ? NONE : now.leads(mouth, colour);
            return to == NONE ? 1 : net.lengthOf(mouth, colour);
        }

        int priceOf(int mouth, int colour) {
            int length = takes(mouth, colour);
            if (laws.holding() == NONE) {
                return length;
            }
            int to = leadsTo(mouth, colour);
            int worth = laws.worth(colour, length, mouth, to, now.guardsAt(to));
            return Math.max(0, Math.min(MOST_PRICE, worth));
        }

        int behind(int mouth, int colour, int darks) {
            int place = mouth;
            for (int i = 0; i < darks; i++) {
                place = leadsTo(place, colour);
            }
            return place;
        }

        int circleLength(int mouth, int colour) {
            int start = behind(mouth, colour, MOST_MOUTHS);
            int place = leadsTo(start, colour);
            int length = 1;
            while (length < MOST_MOUTHS && place != start) {
                place = leadsTo(place, colour);
                length++;
            }
            return length;
        }

        int stepsToCircle(int mouth, int colour, int circle) {
            int place = mouth;
            int ahead = behind(mouth, colour, circle);
            int steps = 0;
            while (steps < MOST_MOUTHS && place != ahead) {
                place = leadsTo(place, colour);
                ahead = leadsTo(ahead, colour);
                steps++;
            }
            return steps;
        }

        int fewestChanges(int from, int to, int set) {
            int reached = 1 << from;
            if (from == to) {
                return 0;
            }
            for (int changes = 0; changes <= MOST_MOUTHS; changes++) {
                int more = reachedByOneLamp(reached, set);
                if (holds(more, to)) {
                    return changes;
                }
                if (more == reached) {
                    return NONE;
                }
                reached = more;
            }
            return NONE;
        }

        private int reachedByOneLamp(int froms, int set) {
            int bits = froms;
            for (int colour = 0; colour < net.colours(); colour++) {
                if (holds(set, colour)) {
                    bits |= trailOf(froms, colour);
                }
            }
            return bits;
        }

        private int trailOf(int froms, int colour) {
            int bits = froms;
            for (int i = 0; i < MOST_MOUTHS; i++) {
                bits |= behindOne(bits, 1 << colour);
            }
            return bits;
        }

        /* MOUTHS to which one DARK leads from any of these MOUTHS by any of these COLOURS. */
        private int behindOne(int froms, int set) {
            int bits = 0;
            for (int mouth = 0; mouth < net.mouths(); mouth++) {
                for (int colour = 0; colour < net.colours() && holds(froms, mouth); colour++) {
                    if (holds(set, colour)) {
                        bits |= 1 << leadsTo(mouth, colour);
                    }
                }
            }
            return bits;
        }

        int reachedFrom(int from, int set) {
            int bits = 1 << from;
            for (int i = 0; i < MOST_MOUTHS; i++) {
                bits |= behindOne(bits, set);
            }
            return bits;
        }

        int fewestLamps() {
            for (int many = 0; many <= net.colours(); many++) {
                for (int set = 0; set <= net.allColours(); set++) {
                    if (Integer.bitCount(set) == many && joinsAll(set)) {
                        return set;
                    }
                }
            }
            return NONE;
        }

        private boolean joinsAll(int set) {
            int all = (1 << net.mouths()) - 1;
            for (int mouth = 0; mouth < net.mouths(); mouth++) {
                if (reachedFrom(mouth, set) != all) {
                    return false;
                }
            }
            return true;
        }

        /* FAR: the least from each MOUTH to one, through none of the shut MOUTHS. */
        private void measure(int to, int set, int by, int shut) {
            for (int mouth = 0; mouth < MOST_MOUTHS; mouth++) {
                put(far, mouth, mouth == to ? 0 : NEVER);
            }
            int closed = shut & ~(1 << to);
            boolean less = true;
            for (int i = 0; i < MOST_MOUTHS && less; i++) {
                less = false;
                for (int mouth = 0; mouth < net.mouths(); mouth++) {
                    int best = leastBehind(mouth, set, by, closed);
                    if (best < at(far, mouth)) {
                        put(far, mouth, best);
                        less = true;
                    }
                }
            }
        }

        private int leastBehind(int mouth, int set, int by, int shut) {
            int least = NEVER;
            for (int colour = 0; colour < net.colours(); colour++) {
                int next = leadsTo(mouth, colour);
                if (holds(set, colour) && !holds(shut, next) && at(far, next) < NEVER) {
                    int cost = by == BY_PRICES ? priceOf(mouth, colour) : takes(mouth, colour);
                    least = Math.min(least, cost + at(far, next));
                }
            }
            return least;
        }

        private int farFrom(int from) {
            return at(far, from) < NEVER ? at(far, from) : NONE;
        }

        int fewestHours(int from, int to, int set) {
            measure(to, set, BY_HOURS, 0);
            return farFrom(from);
        }

        int firstOfSoonest(int from, int to, int set) {
            measure(to, set, BY_HOURS, 0);
            for (int colour = 0; colour < net.colours() && from != to; colour++) {
                int hoursBehind = at(far, leadsTo(from, colour));
                if (holds(set, colour) && takes(from, colour) + hoursBehind == at(far, from)) {
                    return colour;
                }
            }
            return NONE;
        }

        int leastPrices(int from, int to, int set) {
            measure(to, set, BY_PRICES, 0);
            return farFrom(from);
        }

        private int guarded() {
            int bits = 0;
            for (int mouth = 0; mouth < net.mouths(); mouth++) {
                bits |= now.guardsAt(mouth) > 0 ? 1 << mouth : 0;
            }
            return bits;
        }

        int fewestHoursUnseen(int from, int to) {
            measure(to, net.allColours(), BY_HOURS, guarded());
            return farFrom(from);
        }

        int fewestPosts(int from, int to) {
            int watched = guarded();
            int both = 1 << from | 1 << to;
            fillNexts();
            for (int many = 0; many <= net.mouths(); many++) {
                for (int posts = 0; posts < 1 << net.mouths(); posts++) {
                    if (Integer.bitCount(posts) == many && (posts & both) == 0 && !sneaks(from, to, watched | posts)) {
                        return posts;
                    }
                }
            }
            return NONE;
        }

        private void fillNexts() {
            for (int mouth = 0; mouth < net.mouths(); mouth++) {
                put(nexts, mouth, behindOne(1 << mouth, net.allColours()));
            }
        }

        private boolean sneaks(int from, int to, int watched) {
            int bits = at(nexts, from);
            for (int i = 0; i < MOST_MOUTHS && !holds(bits, to); i++) {
                for (int mouth = 0; mouth < net.mouths(); mouth++) {
                    bits |= holds(bits & ~watched, mouth) ? at(nexts, mouth) : 0;
                }
            }
            return holds(bits, to);
        }

        int fewestTogether(int one, int other, int set) {
            long edge = 1L << one * MOST_MOUTHS + other;
            long had = edge;
            for (int darks = 0; darks <= MOST_MOUTHS * MOST_MOUTHS && edge != 0; darks++) {
                if ((edge & TOGETHER) != 0) {
                    return darks;
                }
                edge = pairsBehind(edge, set) & ~had;
                had |= edge;
            }
            return NONE;
        }

        private long pairsBehind(long pairs, int set) {
            long bits = 0;
            for (int pair = 0; pair < MOST_MOUTHS * MOST_MOUTHS; pair++) {
                for (int colour = 0; colour < net.colours() && (pairs >>> pair & 1) == 1; colour++) {
                    if (holds(set, colour)) {
                        int one = leadsTo(pair / MOST_MOUTHS, colour);
                        bits |= 1L << one * MOST_MOUTHS + leadsTo(pair % MOST_MOUTHS, colour);
                    }
                }
            }
            return bits;
        }

        int loopsAt(int mouth) {
            int bits = 0;
            for (int colour = 0; colour < net.colours(); colour++) {
                bits |= leadsTo(mouth, colour) == mouth ? 1 << colour : 0;
            }
            return bits;
        }

        int sameByAll() {
            int bits = 0;
            for (int mouth = 0; mouth < net.mouths(); mouth++) {
                int ends = behindOne(1 << mouth, net.allColours());
                bits |= Integer.bitCount(ends) == 1 ? 1 << mouth : 0;
            }
            return bits;
        }
    }

    /** STRINGS LAID, and the NETS that they leave for what is not known. */
    private static final class Strings {
        private static final int MOST = 10;
        private static final int SLOTS = 4;
        private static final int MOST_UNKNOWN = 4;

        private final Net net;
        private final Moment now;
        private final int[] laid = new int[MOST * SLOTS];
        private final int[] unknown = new int[MOST_UNKNOWN];
        private final int[] assumed = new int[MOST_DARKS];
        private final int[] often = new int[MOST_UNKNOWN * MOST_MOUTHS];
        private int many = 0;
        private int unknowns = 0;

        Strings(Net net, Moment now) {
            this.net = net;
            this.now = now;
        }

        void forget() {
            many = 0;
        }

        int many() {
            return many;
        }

        int add(int mouth, int colour, int darks, int to) {
            if (many >= MOST) {
                return NONE;
            }
            int start = many * SLOTS;
            put(laid, start, mouth);
            put(laid, start + 1, colour);
            put(laid, start + 2, darks);
            put(laid, start + 3, to);
            many++;
            return many;
        }

        int unknownNow() {
            unknowns = 0;
            for (int i = 0; i < net.many(Net.TUNNEL) && unknowns < MOST_UNKNOWN; i++) {
                int dark = net.darkOfTunnel(i);
                if (now.leadsOfDark(dark) == NONE) {
                    put(unknown, unknowns, dark);
                    unknowns++;
                }
            }
            return unknowns;
        }

        /* Begins to go through all that could be; answers how many assumptions there are. */
        private int beginAssumptions() {
            for (int dark = 0; dark < MOST_DARKS; dark++) {
                put(assumed, dark, now.leadsOfDark(dark));
            }
            int all = 1;
            int many = unknownNow();
            for (int i = 0; i < many; i++) {
                all *= net.mouths();
            }
            return all;
        }

        /* The assumption of this number holds the MOUTHS as its digits, the first unknown one's the highest. */
        private boolean isNet(int number) {
            int rest = number;
            for (int i = unknowns - 1; i >= 0; i--) {
                int mouths = Math.max(1, net.mouths());
                put(assumed, at(unknown, i), rest % mouths);
                rest /= mouths;
            }
            for (int i = 0; i < many; i++) {
                if (!fits(i * SLOTS)) {
                    return false;
                }
            }
            return true;
        }

        private boolean fits(int start) {
            int mouth = at(laid, start);
            for (int i = 0; i < at(laid, start + 2); i++) {
                mouth = at(assumed, darkOf(mouth, at(laid, start + 1)));
            }
            return mouth == at(laid, start + 3);
        }

        private int assumedMouth(int i) {
            return at(assumed, at(unknown, i));
        }

        int countNets() {
            int all = beginAssumptions();
            int nets = 0;
            for (int number = 0; number < all; number++) {
                nets += isNet(number) ? 1 : 0;
            }
            return nets;
        }

        int netAt(int i) {
            int all = beginAssumptions();
            int nets = 0;
            for (int number = 0; number < all; number++) {
                if (isNet(number)) {
                    if (nets == i) {
                        return assumedDigits();
                    }
                    nets++;
                }
            }
            return NONE;
        }

        private int assumedDigits() {
            int digits = 0;
            for (int i = 0; i < unknowns; i++) {
                digits = digits * 10 + assumedMouth(i);
            }
            return digits;
        }

        int couldLead(int i) {
            int all = beginAssumptions();
            int bits = 0;
            for (int number = 0; number < all; number++) {
                bits |= isNet(number) ? 1 << assumedMouth(i) : 0;
            }
            return bits;
        }

        int mostTelling() {
            countOften();
            int best = NONE;
            for (int i = 0; i < unknowns; i++) {
                if (mostOften(i) > 0 && (best == NONE || mostOften(i) < mostOften(best))) {
                    best = i;
                }
            }
            return best;
        }

        private void countOften() {
            for (int i = 0; i < often.length; i++) {
                put(often, i, 0);
            }
            int all = beginAssumptions();
            for (int number = 0; number < all; number++) {
                if (isNet(number)) {
                    countAssumed();
                }
            }
        }

        private void countAssumed() {
            for (int i = 0; i < unknowns; i++) {
                int place = i * MOST_MOUTHS + assumedMouth(i);
                put(often, place, at(often, place) + 1);
            }
        }

        int mostOften(int i) {
            int most = 0;
            for (int mouth = 0; mouth < MOST_MOUTHS; mouth++) {
                most = Math.max(most, at(often, i * MOST_MOUTHS + mouth));
            }
            return most;
        }
    }

    /** TIMETABLES of the TRAINS told, and the game of smuggling. */
    private static final class Plans {
        private static final int MOST_TRAINS = 6;
        private static final int MOST_DARKS_EACH = 3;
        private static final int MOST_DELAY = 4;
        private static final int NEVER = 1000;

        private final Net net;
        private final Ways ways;
        private final int[] outs = new int[MOST_TRAINS];
        private final int[] outHour = new int[MOST_TRAINS * MOST_DARKS_EACH];
        private final int[] outWhere = new int[MOST_TRAINS * MOST_DARKS_EACH];
        private final int[] clashing = new int[MOST_TRAINS * MOST_TRAINS];
        private final int[] delays = new int[MOST_TRAINS];
        private int least = NEVER;
        private int leastDigits = NONE;

        Plans(Net net, Ways ways) {
            this.net = net;
            this.ways = ways;
        }

        private int trains() {
            return net.many(Net.TRAIN);
        }

        private void followTrains() {
            for (int train = 0; train < trains(); train++) {
                followTrain(train);
            }
        }

        private void followTrain(int train) {
            int mouth = net.item(Net.TRAIN, train, 0);
            int colour = net.item(Net.TRAIN, train, 1);
            int start = net.item(Net.TRAIN, train, 2);
            int darks = Math.min(MOST_DARKS_EACH, net.item(Net.TRAIN, train, 3));
            int age = 0;
            for (int i = 0; i < darks; i++) {
                int lamp = faded(colour, age, net.fade());
                age += ways.takes(mouth, lamp);
                mouth = ways.leadsTo(mouth, lamp);
                int place = train * MOST_DARKS_EACH + i;
                put(outHour, place, start + age);
                put(outWhere, place, mouth * (UNLIT + 1) + faded(colour, age, net.fade()));
            }
            put(outs, train, darks);
        }

        /* How often two TRAINS come OUT alike, if the one starts so much later than the other. */
        private int clashesOf(int one, int other, int later) {
            int clashes = 0;
            for (int i = 0; i < at(outs, one); i++) {
                for (int j = 0; j < at(outs, other); j++) {
                    int first = one * MOST_DARKS_EACH + i;
                    int second = other * MOST_DARKS_EACH + j;
                    boolean alike = at(outWhere, first) == at(outWhere, second);
                    clashes += alike && at(outHour, first) + later == at(outHour, second) ? 1 : 0;
                }
            }
            return clashes;
        }

        int clashesAsTold() {
            followTrains();
            int clashes = 0;
            for (int one = 0; one < trains(); one++) {
                for (int other = one + 1; other < trains(); other++) {
                    clashes += clashesOf(one, other, 0);
                }
            }
            return clashes;
        }

        /* A bit of CLASHING tells whether two TRAINS clash when the one starts (bit - 4) HOURS later. */
        private void fillClashing() {
            for (int one = 0; one < trains(); one++) {
                for (int other = one + 1; other < trains(); other++) {
                    int bits = 0;
                    for (int later = -MOST_DELAY; later <= MOST_DELAY; later++) {
                        bits |= clashesOf(one, other, later) > 0 ? 1 << later + MOST_DELAY : 0;
                    }
                    put(clashing, one * MOST_TRAINS + other, bits);
                }
            }
        }

        private void plan() {
            followTrains();
            fillClashing();
            least = NEVER;
            leastDigits = NONE;
            place(0, 0, 0);
        }

        int leastDelay() {
            plan();
            return least < NEVER ? least : NONE;
        }

        int delayDigits() {
            plan();
            return leastDigits;
        }

        /* Digits rise as the search goes on, so of several the first found is the least. */
        private void place(int train, int sum, int digits) {
            if (train >= MOST_TRAINS || train >= trains()) {
                least = sum;
                leastDigits = digits;
                return;
            }
            for (int delay = 0; delay <= MOST_DELAY && sum + delay < least; delay++) {
                if (fits(train, delay)) {
                    put(delays, train, delay);
                    place(train + 1, sum + delay, digits * 10 + delay);
                }
            }
        }

        private boolean fits(int train, int delay) {
            for (int one = 0; one < train; one++) {
                int later = at(delays, one) - delay;
                if (holds(at(clashing, one * MOST_TRAINS + train), later + MOST_DELAY)) {
                    return false;
                }
            }
            return true;
        }

        int notMet(int from, int n, int colour, int guard) {
            int mouth = from;
            int times = 0;
            for (int i = 0; i < n; i++) {
                mouth = ways.leadsTo(mouth, colour);
                times += mouth != guard ? 1 : 0;
            }
            return times;
        }

        int countRests(int from, int n) {
            int rests = 0;
            for (int colour = 0; colour < net.colours(); colour++) {
                for (int mouth = 0; mouth < net.mouths(); mouth++) {
                    rests += isRest(from, n, colour, mouth) ? 1 : 0;
                }
            }
            return rests;
        }

        int restAt(int from, int n, int i) {
            int rests = 0;
            for (int colour = 0; colour < net.colours(); colour++) {
                for (int mouth = 0; mouth < net.mouths(); mouth++) {
                    if (isRest(from, n, colour, mouth)) {
                        if (rests == i) {
                            return 10 * colour + mouth;
                        }
                        rests++;
                    }
                }
            }
            return NONE;
        }

        private boolean isRest(int from, int n, int colour, int mouth) {
            int has = notMet(from, n, colour, mouth);
            for (int other = 0; other < net.colours(); other++) {
                if (notMet(from, n, other, mouth) > has) {
                    return false;
                }
            }
            for (int other = 0; other < net.mouths(); other++) {
                if (notMet(from, n, colour, other) < has) {
                    return false;
                }
            }
            return true;
        }
    }
}
