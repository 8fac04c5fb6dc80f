import java.util.List;
import java.util.Random;

/**
 * Random expressions and random texts, with answers found by other means. No object is asked more
 * than 512 times, for behind that its answers are free.
 */
public final class OracleTest {
    private static final int EXPRESSIONS = 8000;
    private static final int TEXTS = 60000;
    private static final Due DUE = new Due();

    public static void main(String[] args) {
        Random random = new Random(20261116);
        faultsOfShortTexts();
        faultsOfRandomTexts(random);
        int read = 0;
        int refused = 0;
        String before = "a";
        WordMachines x = null;
        Oracle[] slots = new Oracle[4];
        for (int i = 0; i < EXPRESSIONS; i++) {
            if (i % 8 == 0) {
                x = new WordMachines();
                slots = new Oracle[4];
            }
            Expression e = new Expression(random, 1 + random.nextInt(6), 1 + random.nextInt(12));
            if (e.text.length() > 100 || e.parts.size() > 6 || e.parts.stream().anyMatch(p -> p.spots.size() > 30)) {
                continue;
            }
            DUE.under(e.text);
            int s = random.nextInt(4);
            Oracle oracle = new Oracle(e);
            int states = Due.read(x, s, e.text);
            DUE.is("states", states, oracle.tooMany ? -2 : oracle.states.size());
            DUE.is("no fault", x.fault(0), 0);
            if (oracle.tooMany) {
                refused++;
            } else {
                read++;
                slots[s] = oracle;
                checkLook(x, s, oracle);
                checkStates(before, s, oracle);
                checkWords(before, s, oracle, random);
                before = e.text;
            }
            int t = random.nextInt(4);
            if (slots[s] != null && slots[t] != null) {
                checkPair(x, s, t, slots[s], slots[t]);
            }
        }
        DUE.under("");
        DUE.holds("many were read: " + read, read > EXPRESSIONS / 2);
        DUE.holds("some were too many: " + refused, refused > EXPRESSIONS / 200);
        DUE.end("OracleTest");
    }

    private static void checkLook(WordMachines x, int s, Oracle o) {
        int count = 0;
        for (int c : o.classes()) {
            count = Math.max(count, c + 1);
        }
        int spots = o.expression.parts.stream().mapToInt(p -> p.spots.size()).sum();
        DUE.is("states", x.look(s, 0), o.states.size());
        DUE.is("classes", x.look(s, 1), count);
        DUE.is("parts", x.look(s, 2), o.expression.parts.size());
        DUE.is("spots", x.look(s, 3), spots);
        DUE.is("none", x.look(s, 4), o.accepting.contains(true) ? 0 : 1);
        DUE.is("finite", x.look(s, 5), o.isFinite() ? 1 : 0);
    }

    /** A new object whose slot had another expression before, of which nothing must be left. */
    private static WordMachines used(String before, int s, String text) {
        WordMachines x = new WordMachines();
        Due.read(x, s, before);
        Due.read(x, s, text);
        Due.read(x, s, text);
        return x;
    }

    private static void checkStates(String before, int s, Oracle o) {
        int[] classes = o.classes();
        WordMachines x = null;
        for (int k = 0; k < o.states.size(); k++) {
            x = k % 40 == 0 ? used(before, s, o.expression.text) : x;
            DUE.is("class of " + k, x.classOf(s, k), classes[k]);
            DUE.is("accepts " + k, x.accepts(s, k), o.accepting.get(k) ? 1 : 0);
            for (int letter = 0; letter < 4; letter++) {
                DUE.is("next of " + k, x.next(s, k, letter), o.steps.get(k)[letter]);
            }
            for (int p = 0; p < o.expression.parts.size(); p++) {
                DUE.is("spots of " + k, x.spots(s, k, p), Math.max(0, o.states.get(k).get(p)));
            }
        }
    }

    private static void checkWords(String before, int s, Oracle o, Random random) {
        String first = null;
        for (int n = 0; n <= 4; n++) {
            List<String> words = o.wordsOf(n);
            checkShortWords(used(before, s, o.expression.text), s, n, words, random);
            first = first == null && !words.isEmpty() ? words.get(0) : first;
        }
        WordMachines x = used(before, s, o.expression.text);
        checkLongWords(x, s, o, random);
        checkShortest(x, s, o, first);
        checkMeans(x, s, o, random);
    }

    private static void checkShortWords(WordMachines x, int s, int n, List<String> words, Random random) {
        DUE.is("words of " + n, x.words(s, n), words.size());
        for (int k = 0; k < words.size(); k += 1 + random.nextInt(20)) {
            DUE.holds("word " + k + " of " + n, x.word(s, n, k));
            DUE.is("word " + k + " of " + n, Due.told(x), words.get(k));
        }
        DUE.holds("no word beyond those of " + n, !x.word(s, n, words.size()));
    }

    private static void checkLongWords(WordMachines x, int s, Oracle o, Random random) {
        int n = 5 + random.nextInt(24);
        long many = x.words(s, n);
        DUE.is("words of " + n, many, o.count(0, n));
        if (many > 0) {
            checkLongWord(x, s, n, (long) (random.nextDouble() * many), o);
            checkLongWord(x, s, n, many - 1, o);
        }
        DUE.holds("no word beyond those of " + n, !x.word(s, n, many));
    }

    private static void checkLongWord(WordMachines x, int s, int n, long k, Oracle o) {
        DUE.holds("word " + k + " of " + n, x.word(s, n, k));
        String word = Due.told(x);
        DUE.is("length of word " + k + " of " + n, word.length(), n);
        DUE.is("place of word " + k + " of " + n, o.placeOf(word), k);
        DUE.is("means word " + k + " of " + n, Due.means(x, s, word), 1);
        DUE.holds("word " + k + " of " + n + " is meant", o.expression.means(word));
    }

    /** The first word of at most four letters was asked of the expression, the others of the states. */
    private static void checkShortest(WordMachines x, int s, Oracle o, String first) {
        String due = first == null ? o.shortest() : first;
        DUE.is("shortest", x.shortest(s), due == null ? -1 : due.length());
        if (due != null) {
            DUE.is("told by shortest", Due.told(x), due);
        }
    }

    private static void checkMeans(WordMachines x, int s, Oracle o, Random random) {
        for (int i = 0; i < 4; i++) {
            StringBuilder word = new StringBuilder();
            for (int n = random.nextInt(i == 0 ? 50 : 8); n > 0; n--) {
                word.append((char) ('a' + random.nextInt(4)));
            }
            DUE.is("means " + word, Due.means(x, s, word.toString()), o.expression.means(word.toString()) ? 1 : 0);
        }
    }

    private static void checkPair(WordMachines x, int s, int t, Oracle left, Oracle right) {
        String names = left.expression.text + " and " + right.expression.text;
        int[] more = new int[1];
        String first = Oracle.compare(left, right, more);
        DUE.is("compare " + names, x.compare(s, t), more[0]);
        int length = x.differ(s, t);
        DUE.is("differ " + names, length, first == null ? -1 : first.length());
        if (first != null) {
            DUE.is("told by differ " + names, Due.told(x), first);
        }
    }

    /** All texts of at most four signs, but for some that are like others. */
    private static void faultsOfShortTexts() {
        String signs = "abc.[]^-()|*01,&!{} e";
        WordMachines x = null;
        int codes = (int) Math.pow(signs.length() + 1, 4);
        for (int code = 0; code < codes; code++) {
            x = code % 50 == 0 ? new WordMachines() : x;
            StringBuilder text = new StringBuilder();
            for (int rest = code; rest > 0; rest /= signs.length() + 1) {
                int sign = rest % (signs.length() + 1);
                text.append(sign == 0 ? "" : signs.substring(sign - 1, sign));
            }
            checkFault(x, text.toString());
        }
    }

    private static void faultsOfRandomTexts(Random random) {
        WordMachines x = null;
        int[] numbers = new int[3];
        for (int i = 0; i < TEXTS; i++) {
            x = i % 50 == 0 ? new WordMachines() : x;
            numbers[checkFault(x, randomText(random))]++;
        }
        DUE.holds("good texts: " + numbers[0], numbers[0] > TEXTS / 20);
        DUE.holds("syntax faults: " + numbers[1], numbers[1] > TEXTS / 20);
        DUE.holds("many of something: " + numbers[2], numbers[2] > TEXTS / 100);
    }

    /** The number of the fault that is due. */
    private static int checkFault(WordMachines x, String text) {
        FaultOracle due = new FaultOracle(text);
        int states = Due.read(x, 0, text);
        DUE.is("whether " + text + " has a fault", states == 0 ? 1 : 0, due.number == 0 ? 0 : 1);
        DUE.is("fault of " + text, x.fault(0), due.number);
        DUE.is("place of the fault of " + text, x.fault(1), due.place);
        return due.number;
    }

    /** Signs by chance, or a good expression with some signs changed, put in or left out. */
    private static String randomText(Random random) {
        String signs = "abcd.[]^-()|*+?01,&!{} e";
        StringBuilder text = new StringBuilder();
        int kind = random.nextInt(6);
        if (kind == 0) {
            for (int n = random.nextInt(8); n > 0; n--) {
                text.append(signs.charAt(random.nextInt(signs.length())));
            }
            return text.toString();
        }
        if (kind == 1) {
            for (int n = 5 + random.nextInt(18); n > 0; n--) {
                text.append("((((!{!{".charAt(random.nextInt(8)));
            }
            return tidy(text, random);
        }
        int size = kind == 2 ? 12 : 4;
        text.append(new Expression(random, kind == 3 ? 8 : 3, size).text);
        for (int n = random.nextInt(4); n > 0 && text.length() > 0; n--) {
            int at = random.nextInt(text.length());
            char sign = signs.charAt(random.nextInt(signs.length()));
            int what = random.nextInt(3);
            if (what == 0) {
                text.setCharAt(at, sign);
            } else if (what == 1) {
                text.insert(at, sign);
            } else {
                text.deleteCharAt(at);
            }
        }
        text.setLength(Math.min(text.length(), 100));
        return text.toString();
    }

    /** Open signs in an order that can stand, closed more or less. */
    private static String tidy(StringBuilder open, Random random) {
        StringBuilder text = new StringBuilder();
        StringBuilder end = new StringBuilder("a");
        for (int i = 0; i < open.length(); i++) {
            char sign = open.charAt(i);
            if (sign != '(') {
                text.append(sign);
            }
        }
        int round = random.nextInt(14);
        for (int i = 0; i < round; i++) {
            text.append('(');
            end.append(')');
        }
        for (int i = open.length() - 1; i >= 0; i--) {
            if (open.charAt(i) == '{') {
                end.append('}');
            }
        }
        return text.append(end).toString();
    }
}
