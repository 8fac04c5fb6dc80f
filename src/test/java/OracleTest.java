import java.util.List;
import java.util.Random;

/** Random expressions and random texts, with answers found by other means. */
public final class OracleTest {
    private static final int EXPRESSIONS = 8000;
    private static final int TEXTS = 60000;
    private static final Due DUE = new Due();

    public static void main(String[] args) {
        Random random = new Random(20261116);
        faultsOfRandomTexts(random);
        int read = 0;
        int refused = 0;
        WordMachines x = null;
        Oracle[] slots = new Oracle[4];
        for (int i = 0; i < EXPRESSIONS; i++) {
            if (i % 8 == 0) {
                x = new WordMachines();
                slots = new Oracle[4];
            }
            Expression e = new Expression(random, 1 + random.nextInt(6), 1 + random.nextInt(12));
            if (e.text.length() > 100 || e.parts.size() > 6 || e.parts.stream().anyMatch(p -> p.spots.size() > 30)) {
                continue;
            }
            int s = random.nextInt(4);
            Oracle oracle = new Oracle(e);
            int states = Due.read(x, s, e.text);
            DUE.is("states of " + e.text, states, oracle.tooMany ? -2 : oracle.states.size());
            DUE.is("no fault of " + e.text, x.fault(0), 0);
            if (oracle.tooMany) {
                refused++;
            } else {
                read++;
                slots[s] = oracle;
                checkMachine(x, s, oracle, random);
            }
            int t = random.nextInt(4);
            if (slots[s] != null && slots[t] != null) {
                checkPair(x, s, t, slots[s], slots[t]);
            }
        }
        DUE.holds("many were read: " + read, read > EXPRESSIONS / 2);
        DUE.holds("some were too many: " + refused, refused > EXPRESSIONS / 200);
        DUE.end("OracleTest");
    }

    private static void checkMachine(WordMachines x, int s, Oracle o, Random random) {
        String text = o.expression.text;
        int[] classes = o.classes();
        int count = 0;
        for (int k = 0; k < o.states.size(); k++) {
            count = Math.max(count, classes[k] + 1);
            DUE.is("class of " + k + " of " + text, x.classOf(s, k), classes[k]);
            DUE.is("accepts " + k + " of " + text, x.accepts(s, k), o.accepting.get(k) ? 1 : 0);
            for (int letter = 0; letter < 4; letter++) {
                DUE.is("next of " + k + " of " + text, x.next(s, k, letter), o.steps.get(k)[letter]);
            }
            for (int p = 0; p < o.expression.parts.size(); p++) {
                DUE.is("spots of " + k + " of " + text, x.spots(s, k, p), Math.max(0, o.states.get(k).get(p)));
            }
        }
        int spots = o.expression.parts.stream().mapToInt(p -> p.spots.size()).sum();
        DUE.is("classes of " + text, x.look(s, 1), count);
        DUE.is("parts of " + text, x.look(s, 2), o.expression.parts.size());
        DUE.is("spots of " + text, x.look(s, 3), spots);
        DUE.is("none of " + text, x.look(s, 4), o.accepting.contains(true) ? 0 : 1);
        DUE.is("finite " + text, x.look(s, 5), o.isFinite() ? 1 : 0);
        checkWords(x, s, o, random);
    }

    private static void checkWords(WordMachines x, int s, Oracle o, Random random) {
        String text = o.expression.text;
        String shortest = null;
        for (int n = 0; n <= 4; n++) {
            List<String> words = o.wordsOf(n);
            DUE.is("words of " + n + " of " + text, x.words(s, n), words.size());
            for (int k = 0; k < words.size(); k += 1 + random.nextInt(20)) {
                DUE.holds("word " + k + " of " + n + " of " + text, x.word(s, n, k));
                DUE.holds("word " + k + " of " + n + " of " + text + " is " + words.get(k), Due.told(x).equals(words.get(k)));
            }
            DUE.holds("no word beyond of " + text, !x.word(s, n, words.size()));
            shortest = shortest == null && !words.isEmpty() ? words.get(0) : shortest;
        }
        int long1 = 5 + random.nextInt(24);
        long many = x.words(s, long1);
        DUE.is("words of " + long1 + " of " + text, many, o.count(long1));
        if (many > 0) {
            long place = (long) (random.nextDouble() * many);
            DUE.holds("a long word of " + text, x.word(s, long1, place));
            String word = Due.told(x);
            DUE.is("its length", word.length(), long1);
            DUE.is("a long word of " + text + " is meant", Due.means(x, s, word), 1);
            DUE.is("the last one of " + text, x.word(s, long1, many - 1) ? 1 : 0, 1);
        }
        int length = x.shortest(s);
        if (shortest != null) {
            DUE.is("shortest of " + text, length, shortest.length());
            DUE.holds("shortest of " + text + " is " + shortest, Due.told(x).equals(shortest));
        } else {
            DUE.holds("shortest of " + text + " is long", length == -1 || length > 4);
            DUE.is("whether there is one", length == -1 ? 0 : 1, o.accepting.contains(true) ? 1 : 0);
        }
        for (int i = 0; i < 4; i++) {
            StringBuilder word = new StringBuilder();
            for (int n = random.nextInt(i == 0 ? 50 : 8); n > 0; n--) {
                word.append((char) ('a' + random.nextInt(4)));
            }
            DUE.is("means " + word + " of " + text, Due.means(x, s, word.toString()), o.expression.means(word.toString()) ? 1 : 0);
        }
    }

    private static void checkPair(WordMachines x, int s, int t, Oracle left, Oracle right) {
        String names = left.expression.text + " and " + right.expression.text;
        int[] more = new int[1];
        String first = Oracle.compare(left, right, more);
        DUE.is("compare " + names, x.compare(s, t), more[0]);
        int length = x.differ(s, t);
        DUE.is("differ " + names, length, first == null ? -1 : first.length());
        if (first != null) {
            DUE.holds("differ " + names + " is " + first, Due.told(x).equals(first));
        }
    }

    private static void faultsOfRandomTexts(Random random) {
        WordMachines x = new WordMachines();
        int[] numbers = new int[3];
        for (int i = 0; i < TEXTS; i++) {
            String text = randomText(random);
            FaultOracle due = new FaultOracle(text);
            int states = Due.read(x, 0, text);
            DUE.is("whether " + text + " has a fault", states == 0 ? 1 : 0, due.number == 0 ? 0 : 1);
            DUE.is("fault of " + text, x.fault(0), due.number);
            DUE.is("place of the fault of " + text, x.fault(1), due.place);
            numbers[due.number]++;
        }
        DUE.holds("good texts: " + numbers[0], numbers[0] > TEXTS / 20);
        DUE.holds("syntax faults: " + numbers[1], numbers[1] > TEXTS / 20);
        DUE.holds("many of something: " + numbers[2], numbers[2] > TEXTS / 100);
    }

    /** Signs by chance, or a good expression with some signs changed, put in or left out. */
    private static String randomText(Random random) {
        String signs = "abcd.[]^-()|*+?01,&!{} e";
        StringBuilder text = new StringBuilder();
        int kind = random.nextInt(6);
        if (kind == 0) {
            for (int n = random.nextInt(8); n > 0; n--) {
                text.append(signs.charAt(random.nextInt(signs.length())));
            }
            return text.toString();
        }
        if (kind == 1) {
            for (int n = 5 + random.nextInt(18); n > 0; n--) {
                text.append("((((!{!{".charAt(random.nextInt(8)));
            }
            return tidy(text, random);
        }
        int size = kind == 2 ? 12 : 4;
        text.append(new Expression(random, kind == 3 ? 8 : 3, size).text);
        for (int n = random.nextInt(4); n > 0 && text.length() > 0; n--) {
            int at = random.nextInt(text.length());
            char sign = signs.charAt(random.nextInt(signs.length()));
            int what = random.nextInt(3);
            if (what == 0) {
                text.setCharAt(at, sign);
            } else if (what == 1) {
                text.insert(at, sign);
            } else {
                text.deleteCharAt(at);
            }
        }
        text.setLength(Math.min(text.length(), 100));
        return text.toString();
    }

    /** Open signs in an order that can stand, closed more or less. */
    private static String tidy(StringBuilder open, Random random) {
        StringBuilder text = new StringBuilder();
        StringBuilder end = new StringBuilder("a");
        for (int i = 0; i < open.length(); i++) {
            char sign = open.charAt(i);
            if (sign != '(') {
                text.append(sign);
            }
        }
        int round = random.nextInt(14);
        for (int i = 0; i < round; i++) {
            text.append('(');
            end.append(')');
        }
        for (int i = open.length() - 1; i >= 0; i--) {
            if (open.charAt(i) == '{') {
                end.append('}');
            }
        }
        return text.append(end).toString();
    }
}
