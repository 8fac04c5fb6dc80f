/**
 * Builds word machines from expressions over the letters a b c d, with complement and
 * intersection, and answers questions about the words that the expressions mean.
 *
 * <p>Rows are made once and used again: the object makes its own, and a machine's are made
 * when a slot gets its first expression, five machines at most.
 */
public final class WordMachines {
    public static final int NONE = -1;

    private static final int TOO_MANY = -2;
    private static final int SLOTS = 4;
    private static final int LETTERS = 4;
    private static final int MOST_BYTES = 100;
    private static final int MOST_PARTS = 6;
    private static final int MOST_SPOTS = 30;
    private static final int MOST_OPEN = 10;
    private static final int MOST_STATES = 150;
    private static final int LONGEST_COUNTED = 28;

    private final int[] tape;
    private int taped;
    private final Machine[] slots;
    private Machine spare;
    private final Parser parser;
    private final Maker maker;
    private final Least least;
    private final Counts counts;
    private final Inclusion inclusion;
    private final Difference difference;
    private final Told told;

    public WordMachines() {
        tape = new int[MOST_BYTES];
        taped = 0;
        slots = new Machine[SLOTS];
        spare = null;
        parser = new Parser();
        maker = new Maker();
        least = new Least();
        counts = new Counts();
        inclusion = new Inclusion();
        difference = new Difference();
        told = new Told();
    }

    public int feed(int a, int b, int c, int d, int e) {
        if (taped + 20 > MOST_BYTES) {
            return NONE;
        }
        putBytes(a);
        putBytes(b);
        putBytes(c);
        putBytes(d);
        putBytes(e);
        return taped;
    }

    public int read(int s, int n) {
        if (s < 0 || s >= SLOTS || n < 0 || n > taped) {
            return NONE;
        }
        taped = 0;
        if (!parser.parse(tape, n)) {
            return 0;
        }
        // Made in a spare one, so that the slot is as before if there are too many states.
        Machine made = spare == null ? new Machine() : spare;
        if (!maker.make(parser.parts, made)) {
            spare = made;
            return TOO_MANY;
        }
        least.classify(made);
        spare = slots[s];
        slots[s] = made;
        return made.states;
    }

    public int fault(int what) {
        if (what == 0) {
            return parser.faultNumber;
        }
        return what == 1 ? parser.faultPlace : NONE;
    }

    public int look(int s, int what) {
        Machine m = machineIn(s);
        if (m == null) {
            return NONE;
        }
        switch (what) {
            case 0:
                return m.states;
            case 1:
                return m.classes;
            case 2:
                return m.parts;
            case 3:
                return m.spotsInAll;
            case 4:
                return m.firstAccepting() == NONE ? 1 : 0;
            case 5:
                return m.finite ? 1 : 0;
            default:
                return NONE;
        }
    }

    public int next(int s, int k, int x) {
        Machine m = machineIn(s);
        if (m == null || !m.hasState(k) || x < 0 || x >= LETTERS) {
            return NONE;
        }
        return m.step[k * LETTERS + x];
    }

    public int accepts(int s, int k) {
        Machine m = machineIn(s);
        if (m == null || !m.hasState(k)) {
            return NONE;
        }
        return m.accepting[k] ? 1 : 0;
    }

    public int spots(int s, int k, int p) {
        Machine m = machineIn(s);
        if (m == null || !m.hasState(k) || p < 0 || p >= m.parts) {
            return NONE;
        }
        return m.sets[k * MOST_PARTS + p];
    }

    public int classOf(int s, int k) {
        Machine m = machineIn(s);
        if (m == null || !m.hasState(k)) {
            return NONE;
        }
        return m.classRow[k];
    }

    public int means(int s, int n) {
        Machine m = machineIn(s);
        if (m == null || n < 0 || n > taped) {
            return NONE;
        }
        taped = 0;
        int state = 0;
        for (int i = 0; i < n; i++) {
            if (!isLetter(tape[i])) {
                return 0;
            }
            state = m.step[state * LETTERS + tape[i] - 'a'];
        }
        return m.accepting[state] ? 1 : 0;
    }

    public long words(int s, int n) {
        Machine m = machineIn(s);
        if (m == null || n < 0 || n > LONGEST_COUNTED) {
            return NONE;
        }
        counts.count(m, n);
        return counts.behind(0, n);
    }

    public boolean word(int s, int n, long k) {
        Machine m = machineIn(s);
        if (m == null || n < 0 || n > LONGEST_COUNTED || k < 0) {
            return false;
        }
        counts.count(m, n);
        if (k >= counts.behind(0, n)) {
            return false;
        }
        counts.tellWord(m, n, k, told);
        return true;
    }

    public int shortest(int s) {
        Machine m = machineIn(s);
        if (m == null) {
            return NONE;
        }
        // States are numbered in the order of the first word that leads to each.
        int k = m.firstAccepting();
        if (k == NONE) {
            return NONE;
        }
        told.trace(m.origin, k);
        return told.length;
    }

    public int compare(int s, int t) {
        Machine m = machineIn(s);
        Machine o = machineIn(t);
        if (m == null || o == null) {
            return NONE;
        }
        return inclusion.surplus(m, o);
    }

    public int differ(int s, int t) {
        Machine m = machineIn(s);
        Machine o = machineIn(t);
        if (m == null || o == null || !difference.find(m, o, told)) {
            return NONE;
        }
        return told.length;
    }

    public int letter(int i) {
        return i >= 0 && i < told.length ? told.letters[i] : NONE;
    }

    private void putBytes(int four) {
        for (int shift = 24; shift >= 0 && taped < MOST_BYTES; shift -= 8) {
            tape[taped] = four >>> shift & 255;
            taped++;
        }
    }

    /** The machine of slot s, or null if there is no such slot or it has no expression. */
    private Machine machineIn(int s) {
        return s >= 0 && s < SLOTS ? slots[s] : null;
    }

    private static boolean isLetter(int sign) {
        return sign >= 'a' && sign <= 'd';
    }

    /** The word told last. */
    private static final class Told {
        // Two machines that differ do so on a word shorter than both have states together.
        private final int[] letters = new int[2 * MOST_STATES];
        private int length = 0;

        /**
         * Tells the word that led from 0 to last: origin has for each number but 0 the one
         * before it and the letter between them, as one number.
         */
        private void trace(int[] origin, int last) {
            int count = 0;
            for (int i = last; i > 0 && count < letters.length; count++) {
                i = origin[i] / LETTERS;
            }
            int i = last;
            for (int place = count - 1; place >= 0; place--) {
                letters[place] = origin[i] % LETTERS;
                i = origin[i] / LETTERS;
            }
            length = count;
        }
    }

    /** What is known of an expression's parts, and how they are joined. */
    private static final class Parts {
        private int count = 0;
        /** Bit w tells whether the expression takes a word that just the parts in w take. */
        private long truth = 0;
        private final int[] spotCount = new int[MOST_PARTS];
        private final int[] firsts = new int[MOST_PARTS];
        private final int[] lasts = new int[MOST_PARTS];
        private final boolean[] takesEmpty = new boolean[MOST_PARTS];
        /** By part and letter: the spots that read it. */
        private final int[] readers = new int[MOST_PARTS * LETTERS];
        /** By part and spot: the spots that can read the next letter. */
        private final int[] follows = new int[MOST_PARTS * MOST_SPOTS];

        private void begin() {
            spotCount[count] = 0;
            for (int x = 0; x < LETTERS; x++) {
                readers[count * LETTERS + x] = 0;
            }
        }

        private void end(int first, int last, boolean empty) {
            firsts[count] = first;
            lasts[count] = last;
            takesEmpty[count] = empty;
            count++;
        }

        private boolean isFull() {
            return spotCount[count] >= MOST_SPOTS;
        }

        /** A new spot of the part that was begun, as a bit. */
        private int addSpot(int letterSet) {
            int spot = spotCount[count];
            int bit = 1 << spot;
            follows[count * MOST_SPOTS + spot] = 0;
            for (int x = 0; x < LETTERS; x++) {
                if ((letterSet >> x & 1) != 0) {
                    readers[count * LETTERS + x] |= bit;
                }
            }
            spotCount[count] = spot + 1;
            return bit;
        }

        private void link(int before, int after) {
            for (int spot = 0; spot < spotCount[count]; spot++) {
                if ((before >> spot & 1) != 0) {
                    follows[count * MOST_SPOTS + spot] |= after;
                }
            }
        }

        /** The spots of part p that can read a letter behind one of a set. */
        private int following(int p, int set) {
            int all = 0;
            for (int spot = 0; spot < spotCount[p]; spot++) {
                if ((set >> spot & 1) != 0) {
                    all |= follows[p * MOST_SPOTS + spot];
                }
            }
            return all;
        }

        private int spotsInAll() {
            int all = 0;
            for (int p = 0; p < count; p++) {
                all += spotCount[p];
            }
            return all;
        }
    }

    /** Reads a text into parts, by one method for each rule of the grammar. */
    private static final class Parser {
        private static final int SYNTAX = 1;
        private static final int MANY = 2;
        private static final int END = -1;
        private static final int ALL_LETTERS = 15;
        /** Of each part: the sets of parts that it is in, as the bits of Parts.truth. */
        private static final long[] TRUTHS = {
            0xAAAAAAAAAAAAAAAAL, 0xCCCCCCCCCCCCCCCCL, 0xF0F0F0F0F0F0F0F0L,
            0xFF00FF00FF00FF00L, 0xFFFF0000FFFF0000L, 0xFFFFFFFF00000000L
        };

        private final int[] text = new int[MOST_BYTES];
        private int length = 0;
        private int at = 0;
        private final Parts parts = new Parts();
        private int faultNumber = 0;
        private int faultPlace = NONE;
        // Of the piece of a part read last: the spots that can read its first letter and its
        // last one, and whether it takes the empty word.
        private int first = 0;
        private int last = 0;
        private boolean empty = false;

        private boolean parse(int[] bytes, int n) {
            length = Math.max(0, Math.min(n, Math.min(bytes.length, MOST_BYTES)));
            System.arraycopy(bytes, 0, text, 0, length);
            at = 0;
            faultNumber = 0;
            faultPlace = NONE;
            parts.count = 0;
            parts.truth = top(0);
            if (at < length) {
                refuse(SYNTAX);
            }
            return faultNumber == 0;
        }

        private int sign() {
            return at < length ? text[at] : END;
        }

        /** Keeps the first fault alone, and goes to the end, where no rule reads on. */
        private void refuse(int number) {
            if (faultNumber == 0) {
                faultNumber = number;
                faultPlace = at;
                at = length;
            }
        }

        private void pass(int wanted) {
            if (sign() == wanted) {
                at++;
            } else {
                refuse(SYNTAX);
            }
        }

        private long top(int open) {
            long truth = meet(open);
            for (int turn = 0; turn < length && sign() == ','; turn++) {
                at++;
                truth |= meet(open);
            }
            return truth;
        }

        private long meet(int open) {
            long truth = side(open);
            for (int turn = 0; turn < length && sign() == '&'; turn++) {
                at++;
                truth &= side(open);
            }
            return truth;
        }

        /** open: how many of { and ! are. */
        private long side(int open) {
            int sign = sign();
            if (sign != '!' && sign != '{') {
                return joinedPart();
            }
            if (open >= MOST_OPEN) {
                refuse(MANY);
                return 0;
            }
            at++;
            if (sign == '!') {
                return ~side(open + 1);
            }
            long truth = top(open + 1);
            pass('}');
            return truth;
        }

        /** A part that is in no other one. */
        private long joinedPart() {
            int p = parts.count;
            if (!beginsAtom(sign())) {
                refuse(SYNTAX);
                return 0;
            }
            if (p >= MOST_PARTS) {
                refuse(MANY);
                return 0;
            }
            parts.begin();
            part(0);
            parts.end(first, last, empty);
            return TRUTHS[p];
        }

        /** open: how many of ( are. */
        private void part(int open) {
            row(open);
            int firsts = first;
            int lasts = last;
            boolean none = empty;
            for (int turn = 0; turn < length && sign() == '|'; turn++) {
                at++;
                row(open);
                firsts |= first;
                lasts |= last;
                none = none || empty;
            }
            setPiece(firsts, lasts, none);
        }

        private void row(int open) {
            item(open);
            int firsts = first;
            int lasts = last;
            boolean none = empty;
            for (int turn = 0; turn < length && beginsAtom(sign()); turn++) {
                item(open);
                parts.link(lasts, first);
                firsts |= none ? first : 0;
                lasts = empty ? lasts | last : last;
                none = none && empty;
            }
            setPiece(firsts, lasts, none);
        }

        private void item(int open) {
            atom(open);
            for (int turn = 0; turn < length && isRepeat(sign()); turn++) {
                if (sign() != '?') {
                    parts.link(last, first);
                }
                if (sign() != '+') {
                    empty = true;
                }
                at++;
            }
        }

        private void atom(int open) {
            int sign = sign();
            if (sign == '(') {
                group(open);
            } else if (sign == '0' || sign == '1') {
                at++;
                setPiece(0, 0, sign == '1');
            } else if (!beginsAtom(sign)) {
                refuse(SYNTAX);
            } else if (parts.isFull()) {
                refuse(MANY);
            } else {
                at++;
                int spot = parts.addSpot(sign == '[' ? bracket() : lettersOf(sign));
                setPiece(spot, spot, false);
            }
        }

        private void group(int open) {
            if (open >= MOST_OPEN) {
                refuse(MANY);
                return;
            }
            at++;
            part(open + 1);
            pass(')');
        }

        private static int lettersOf(int sign) {
            return sign == '.' ? ALL_LETTERS : 1 << sign - 'a';
        }

        /** The letters of what stands behind a [. */
        private int bracket() {
            boolean without = sign() == '^';
            if (without) {
                at++;
            }
            int set = range();
            for (int turn = 0; turn < length && isLetter(sign()); turn++) {
                set |= range();
            }
            pass(']');
            return without ? ALL_LETTERS & ~set : set;
        }

        private int range() {
            int low = sign();
            if (!isLetter(low)) {
                refuse(SYNTAX);
                return 0;
            }
            at++;
            if (sign() != '-') {
                return lettersOf(low);
            }
            at++;
            int high = sign();
            if (!isLetter(high) || high < low) {
                refuse(SYNTAX);
                return 0;
            }
            at++;
            return (2 << high - 'a') - (1 << low - 'a');
        }

        private void setPiece(int firsts, int lasts, boolean none) {
            first = firsts;
            last = lasts;
            empty = none;
        }

        private static boolean beginsAtom(int sign) {
            return isLetter(sign) || sign == '.' || sign == '[' || sign == '('
                || sign == '0' || sign == '1';
        }

        private static boolean isRepeat(int sign) {
            return sign == '*' || sign == '+' || sign == '?';
        }
    }

    /** The machine of one expression. */
    private static final class Machine {
        private int states = 0;
        private int classes = 0;
        private int parts = 0;
        private int spotsInAll = 0;
        private boolean finite = false;
        /** By state and letter: the state behind them. */
        private final int[] step = new int[MOST_STATES * LETTERS];
        /** The place in step that led to each state first. */
        private final int[] origin = new int[MOST_STATES];
        /** By state and part: its spots, as bits. */
        private final int[] sets = new int[MOST_STATES * MOST_PARTS];
        private final boolean[] accepting = new boolean[MOST_STATES];
        private final int[] classRow = new int[MOST_STATES];

        private boolean hasState(int k) {
            return k >= 0 && k < states;
        }

        private int firstAccepting() {
            for (int k = 0; k < states; k++) {
                if (accepting[k]) {
                    return k;
                }
            }
            return NONE;
        }
    }

    /** Makes the states of a machine, in their order. */
    private static final class Maker {
        private static final int BUCKETS = 64;
        private static final int BUCKET_SHIFT = 26;

        private final int[] reach = new int[MOST_PARTS];
        private final int[] behind = new int[MOST_PARTS];
        /** By bucket: its latest state; 0 ends the chain, since state 0 is never looked for. */
        private final int[] latest = new int[BUCKETS];
        /** By state: the one before it in its bucket. */
        private final int[] earlier = new int[MOST_STATES];

        /** Whether there are not too many states. */
        private boolean make(Parts parts, Machine machine) {
            machine.states = 0;
            machine.parts = parts.count;
            machine.spotsInAll = parts.spotsInAll();
            beginEmpty();
            addState(parts, machine, 0);
            for (int k = 0; k < machine.states && k < MOST_STATES; k++) {
                setReach(parts, machine, k);
                for (int x = 0; x < LETTERS; x++) {
                    int place = k * LETTERS + x;
                    setBehind(parts, x);
                    int target = stateBehind(machine);
                    if (target == machine.states && !addState(parts, machine, place)) {
                        return false;
                    }
                    machine.step[place] = target;
                }
            }
            return true;
        }

        private void beginEmpty() {
            for (int p = 0; p < MOST_PARTS; p++) {
                behind[p] = 0;
            }
            for (int bucket = 0; bucket < BUCKETS; bucket++) {
                latest[bucket] = 0;
            }
        }

        /** The spots that can read a letter in state k. */
        private void setReach(Parts parts, Machine machine, int k) {
            for (int p = 0; p < parts.count; p++) {
                reach[p] = k == 0 ? parts.firsts[p]
                    : parts.following(p, machine.sets[k * MOST_PARTS + p]);
            }
        }

        private void setBehind(Parts parts, int x) {
            for (int p = 0; p < parts.count; p++) {
                behind[p] = reach[p] & parts.readers[p * LETTERS + x];
            }
        }

        /** The state with the sets behind; the number of states if there is none yet. */
        private int stateBehind(Machine machine) {
            int k = latest[bucketBehind(machine.parts)];
            for (int turn = 0; turn < MOST_STATES && k > 0; turn++) {
                if (hasSetsBehind(machine, k)) {
                    return k;
                }
                k = earlier[k];
            }
            return machine.states;
        }

        private int bucketBehind(int parts) {
            int mix = 0;
            for (int p = 0; p < parts; p++) {
                mix = (mix + behind[p]) * 0x9E3779B1;
            }
            return mix >>> BUCKET_SHIFT;
        }

        private boolean hasSetsBehind(Machine machine, int k) {
            for (int p = 0; p < machine.parts; p++) {
                if (machine.sets[k * MOST_PARTS + p] != behind[p]) {
                    return false;
                }
            }
            return true;
        }

        private boolean addState(Parts parts, Machine machine, int place) {
            int k = machine.states;
            if (k >= MOST_STATES) {
                return false;
            }
            int taking = 0;
            for (int p = 0; p < parts.count; p++) {
                machine.sets[k * MOST_PARTS + p] = behind[p];
                boolean takes = k == 0 ? parts.takesEmpty[p] : (behind[p] & parts.lasts[p]) != 0;
                taking |= takes ? 1 << p : 0;
            }
            machine.accepting[k] = (parts.truth >>> taking & 1) != 0;
            machine.origin[k] = place;
            machine.states = k + 1;
            // State 0 is at its beginning: behind a letter no state is the same, even with no spots.
            if (k > 0) {
                int bucket = bucketBehind(parts.count);
                earlier[k] = latest[bucket];
                latest[bucket] = k;
            }
            return true;
        }
    }

    /** Finds the classes of a machine's states, and whether it means finitely many words. */
    private static final class Least {
        private final int[] fresh = new int[MOST_STATES];
        /** By class: the state that leads the class split off from it last. */
        private final int[] leader = new int[MOST_STATES];
        /** By leading state: the one that was split off before it. */
        private final int[] earlier = new int[MOST_STATES];
        private final boolean[] ended = new boolean[MOST_STATES];

        private void classify(Machine m) {
            divideByAccepting(m);
            boolean split = true;
            for (int round = 0; round < MOST_STATES && split; round++) {
                split = divideByNext(m);
            }
            m.finite = isFinite(m);
        }

        private static void divideByAccepting(Machine m) {
            m.classes = 1;
            for (int k = 0; k < m.states; k++) {
                boolean like = m.accepting[k] == m.accepting[0];
                m.classRow[k] = like ? 0 : 1;
                m.classes = like ? m.classes : 2;
            }
        }

        /** Divides the classes by those of the next states; whether there are more then. */
        private boolean divideByNext(Machine m) {
            for (int c = 0; c < m.classes; c++) {
                leader[c] = NONE;
            }
            int count = 0;
            // In the order of states, so that classes are numbered by the first state of each.
            for (int k = 0; k < m.states; k++) {
                int like = leaderLike(m, k);
                if (like == NONE) {
                    int old = m.classRow[k];
                    earlier[k] = leader[old];
                    leader[old] = k;
                    fresh[k] = count;
                    count++;
                } else {
                    fresh[k] = fresh[like];
                }
            }
            boolean more = count > m.classes;
            System.arraycopy(fresh, 0, m.classRow, 0, m.states);
            m.classes = count;
            return more;
        }

        private int leaderLike(Machine m, int k) {
            int candidate = leader[m.classRow[k]];
            for (int turn = 0; turn < MOST_STATES && candidate != NONE; turn++) {
                if (goAlike(m, k, candidate)) {
                    return candidate;
                }
                candidate = earlier[candidate];
            }
            return NONE;
        }

        private static boolean goAlike(Machine m, int k, int j) {
            for (int x = 0; x < LETTERS; x++) {
                int a = m.step[k * LETTERS + x];
                int b = m.step[j * LETTERS + x];
                if (m.classRow[a] != m.classRow[b]) {
                    return false;
                }
            }
            return true;
        }

        /**
         * A class has finitely many words ahead if it has none, or if all that come next have
         * finitely many. States of one class go alike, so any of them can tell for it.
         */
        private boolean isFinite(Machine m) {
            for (int c = 0; c < m.classes; c++) {
                ended[c] = false;
            }
            boolean more = true;
            for (int round = 0; round <= MOST_STATES && more; round++) {
                more = false;
                for (int k = m.states - 1; k >= 0; k--) {
                    int c = m.classRow[k];
                    if (!ended[c] && (meansNothing(m, k) || goesToEndedOnly(m, k))) {
                        ended[c] = true;
                        more = true;
                    }
                }
            }
            return ended[0];
        }

        /** In a least machine a class without words ahead never leaves itself. */
        private static boolean meansNothing(Machine m, int k) {
            for (int x = 0; x < LETTERS; x++) {
                if (m.classRow[m.step[k * LETTERS + x]] != m.classRow[k]) {
                    return false;
                }
            }
            return !m.accepting[k];
        }

        private boolean goesToEndedOnly(Machine m, int k) {
            for (int x = 0; x < LETTERS; x++) {
                if (!ended[m.classRow[m.step[k * LETTERS + x]]]) {
                    return false;
                }
            }
            return true;
        }
    }

    /** Counts the words of each length that lead from each state to one that accepts. */
    private static final class Counts {
        private final long[] table = new long[(LONGEST_COUNTED + 1) * MOST_STATES];

        private void count(Machine m, int longest) {
            for (int k = 0; k < m.states; k++) {
                table[k] = m.accepting[k] ? 1 : 0;
            }
            for (int n = 1; n <= longest && n <= LONGEST_COUNTED; n++) {
                for (int k = 0; k < m.states; k++) {
                    long sum = 0;
                    for (int x = 0; x < LETTERS; x++) {
                        sum += behind(m.step[k * LETTERS + x], n - 1);
                    }
                    table[n * MOST_STATES + k] = sum;
                }
            }
        }

        private long behind(int k, int n) {
            return table[n * MOST_STATES + k];
        }

        /** Tells the word of a place that is below the count of those of n letters. */
        private void tellWord(Machine m, int n, long place, Told told) {
            long left = place;
            int state = 0;
            for (int i = 0; i < n; i++) {
                int x = 0;
                long skipped = behind(m.step[state * LETTERS], n - 1 - i);
                while (x < LETTERS - 1 && left >= skipped) {
                    left -= skipped;
                    x++;
                    skipped = behind(m.step[state * LETTERS + x], n - 1 - i);
                }
                told.letters[i] = x;
                state = m.step[state * LETTERS + x];
            }
            told.length = n;
        }
    }

    /** Goes through the pairs of states in which two machines can be behind the same word. */
    private static final class Inclusion {
        private static final int LEFT_MORE = 1;
        private static final int RIGHT_MORE = 2;
        private static final int BOTH_MORE = 3;
        private static final int BITS = 64;

        // Rows of bits instead of a queue, which would need a place for each of 22500 pairs.
        private final long[] seen = new long[MOST_STATES * MOST_STATES / BITS + 1];
        private final long[] done = new long[MOST_STATES * MOST_STATES / BITS + 1];

        /** Which of the machines has words that the other one has not. */
        private int surplus(Machine m, Machine o) {
            int pairs = m.states * o.states;
            int rows = (pairs + BITS - 1) / BITS;
            for (int r = 0; r < rows; r++) {
                seen[r] = 0;
                done[r] = 0;
            }
            seen[0] = 1;
            int found = 0;
            boolean more = true;
            for (int sweep = 0; sweep <= pairs && more && found != BOTH_MORE; sweep++) {
                more = false;
                for (int r = 0; r < rows; r++) {
                    if ((seen[r] & ~done[r]) != 0) {
                        more = true;
                        found |= visitRow(m, o, r);
                    }
                }
            }
            return found;
        }

        private int visitRow(Machine m, Machine o, int r) {
            int found = 0;
            for (int bit = 0; bit < BITS; bit++) {
                if (((seen[r] & ~done[r]) >>> bit & 1) != 0) {
                    done[r] |= 1L << bit;
                    found |= visit(m, o, r * BITS + bit);
                }
            }
            return found;
        }

        private int visit(Machine m, Machine o, int pair) {
            // Never 0 for a machine that has states; looked at because it divides.
            int width = Math.max(1, o.states);
            int p = pair / width;
            int q = pair % width;
            for (int x = 0; x < LETTERS; x++) {
                int target = m.step[p * LETTERS + x] * width + o.step[q * LETTERS + x];
                seen[target / BITS] |= 1L << target % BITS;
            }
            if (m.accepting[p] == o.accepting[q]) {
                return 0;
            }
            return m.accepting[p] ? LEFT_MORE : RIGHT_MORE;
        }
    }

    /**
     * Finds the first word on which two machines differ. Pairs of states are looked at in the
     * order of the words that lead to them. A pair whose two states are tied through earlier
     * pairs is left out: where it differs, one of those differs on an earlier word. So each
     * pair ties two groups of states, and there are fewer pairs than states.
     */
    private static final class Difference {
        private static final int MOST_PAIRS = 2 * MOST_STATES;

        private final int[] tie = new int[MOST_PAIRS];
        private final int[] lefts = new int[MOST_PAIRS];
        private final int[] rights = new int[MOST_PAIRS];
        /** By pair: the earlier pair and the letter that led to it, as one number. */
        private final int[] origin = new int[MOST_PAIRS];
        private int count = 0;

        /** Whether there is such a word; it is told then. */
        private boolean find(Machine m, Machine o, Told told) {
            for (int i = 0; i < MOST_PAIRS; i++) {
                tie[i] = i;
            }
            count = 0;
            tiePair(0, 0, 0);
            for (int i = 0; i < count && i < MOST_PAIRS; i++) {
                if (m.accepting[lefts[i]] != o.accepting[rights[i]]) {
                    told.trace(origin, i);
                    return true;
                }
                for (int x = 0; x < LETTERS; x++) {
                    int p = m.step[lefts[i] * LETTERS + x];
                    int q = o.step[rights[i] * LETTERS + x];
                    tiePair(p, q, i * LETTERS + x);
                }
            }
            return false;
        }

        private void tiePair(int p, int q, int from) {
            int a = groupOf(p);
            int b = groupOf(MOST_STATES + q);
            if (a == b || count >= MOST_PAIRS) {
                return;
            }
            tie[a] = b;
            lefts[count] = p;
            rights[count] = q;
            origin[count] = from;
            count++;
        }

        private int groupOf(int state) {
            int group = state;
            for (int turn = 0; turn < MOST_PAIRS && tie[group] != group; turn++) {
                tie[group] = tie[tie[group]];
                group = tie[group];
            }
            return group;
        }
    }
}
