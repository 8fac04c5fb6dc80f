/** Each promise by ordinary inputs, the edges that the document names, and wrong inputs. */
public final class PromiseTest {
    private static final int NONE = WordMachines.NONE;
    private static final int[] WILD = {
        Integer.MIN_VALUE, -5, -2, -1, 4, 5, 6, 7, 149, 150, 151, 600, 1 << 30, Integer.MAX_VALUE
    };
    private static final Due DUE = new Due();

    public static void main(String[] args) {
        newObject();
        feed();
        read();
        readAtTheLimits();
        syntaxFaults();
        manyFaults();
        faultStays();
        look();
        finitelyMany();
        steps();
        spots();
        spotsBehindNothing();
        classes();
        means();
        words();
        word();
        shortest();
        compare();
        differ();
        letter();
        wildArguments();
        DUE.end("PromiseTest");
    }

    private static void newObject() {
        WordMachines x = new WordMachines();
        DUE.is("NONE", WordMachines.NONE, -1);
        for (int s = -1; s <= 4; s++) {
            for (int what = -1; what <= 6; what++) {
                DUE.is("new: look(" + s + ", " + what + ")", x.look(s, what), NONE);
            }
            DUE.is("new: next", x.next(s, 0, 0), NONE);
            DUE.is("new: accepts", x.accepts(s, 0), NONE);
            DUE.is("new: spots", x.spots(s, 0, 0), NONE);
            DUE.is("new: classOf", x.classOf(s, 0), NONE);
            DUE.is("new: means", x.means(s, 0), NONE);
            DUE.is("new: words", x.words(s, 0), NONE);
            DUE.holds("new: no word", !x.word(s, 0, 0));
            DUE.is("new: shortest", x.shortest(s), NONE);
            DUE.is("new: compare", x.compare(s, 0), NONE);
            DUE.is("new: differ", x.differ(0, s), NONE);
        }
        DUE.is("new: fault(0)", x.fault(0), 0);
        DUE.is("new: fault(1)", x.fault(1), NONE);
        DUE.is("new: letter(0)", x.letter(0), NONE);
        DUE.is("new: the tape is empty", x.read(0, 1), NONE);
    }

    private static void feed() {
        WordMachines x = new WordMachines();
        for (int i = 1; i <= 5; i++) {
            DUE.is("feed " + i, x.feed(0x61616161, 0x61616161, 0x61616161, 0x61616161, 0x61616161), 20L * i);
        }
        DUE.is("feed 6", x.feed(0, 0, 0, 0, 0), NONE);
        DUE.is("read all", Due.read(x, 0, ""), 0);
        DUE.is("the tape is empty then", x.feed(0x2E2A2020, 0, 0, 0, 0), 20);
        DUE.is("read .*", x.read(0, 2), 2);
        for (int i = 1; i <= 5; i++) {
            x.feed(0x61626364, 0x61626364, 0x61626364, 0x61626364, 0x61626364);
        }
        DUE.is("a refused feed", x.feed(0, 0, 0, 0, 0), NONE);
        DUE.is("leaves the hundred bytes", x.means(0, 100), 1);
        x.feed(0x61626364, 0x61626364, 0x61626364, 0x61626364, 0x61626364);
        DUE.is("highest byte first", x.read(0, 20), 22);
        x.shortest(0);
        DUE.is("highest byte first", Due.told(x), "abcdabcdabcdabcdabcd");
        x.feed(0xE1, 0, 0, 0, 0);
        DUE.is("bytes above 127 are no letters", x.read(1, 4), 0);
        DUE.is("the first byte is 0", x.fault(1), 0);
        x.feed(0x61E16161, 0, 0, 0, 0);
        DUE.is("a byte above 127", x.read(1, 4), 0);
        DUE.is("a byte above 127 is a fault", x.fault(1), 1);
    }

    private static void read() {
        WordMachines x = new WordMachines();
        DUE.is("read(3)", Due.read(x, 3, "ab|cd"), 6);
        DUE.is("read in place", Due.read(x, 3, "1"), 2);
        DUE.is("a fault", Due.read(x, 3, "a,"), 0);
        DUE.is("leaves the slot", x.look(3, 3), 0);
        DUE.is("too many", Due.read(x, 3, ".*a.......b"), -2);
        DUE.is("leaves the slot", x.look(3, 0), 2);
        Due.feed(x, "a");
        DUE.is("no slot 4", x.read(4, 1), NONE);
        DUE.is("no slot -1", x.read(-1, 1), NONE);
        DUE.is("no 21 bytes", x.read(3, 21), NONE);
        DUE.is("no -1 bytes", x.read(3, -1), NONE);
        DUE.is("the tape stays", x.read(3, 1), 3);
        DUE.is("the tape is empty then", x.read(3, 1), NONE);
        Due.feed(x, "a,");
        x.read(3, 2);
        DUE.is("empty behind a fault, too", x.feed(0, 0, 0, 0, 0), 20);
        x.read(3, 0);
        Due.feed(x, ".*a.......b");
        x.read(3, 11);
        DUE.is("empty behind too many, too", x.feed(0, 0, 0, 0, 0), 20);
        x.read(3, 0);
        for (String text : new String[] {"0", "1", "[^a-d]", "1*+?", "(1)", "{{1}}"}) {
            DUE.is("read " + text, Due.read(x, 0, text), 2);
        }
        DUE.is("[a-a]", Due.read(x, 0, "[a-aa-d]"), 3);
        DUE.is("parts are all in a state", Due.read(x, 0, "1&{aa,!bb}"), 6);
        DUE.is("too many, then fewer", Due.read(x, 1, ".*a.......b"), -2);
        DUE.is("too many, then fewer", Due.read(x, 1, ".*a....."), 65);
        DUE.is("slots do not meet", x.look(0, 0), 6);
    }

    private static void readAtTheLimits() {
        WordMachines x = new WordMachines();
        String cycles = "(" + "a".repeat(29) + ")*,(aaaaa)*,";
        DUE.is("150 states", Due.read(x, 0, cycles + "bbb"), 150);
        DUE.is("look at 150", x.look(0, 0), 150);
        DUE.is("state 149 is behind 145 letters", x.accepts(0, 149), 1);
        DUE.is("and the cycle goes on", x.accepts(0, x.next(0, 149, 0)), 0);
        DUE.is("state 150", x.accepts(0, 150), NONE);
        DUE.is("151 states", Due.read(x, 0, cycles + "bbbb"), -2);
        DUE.is("the slot is as before", x.look(0, 0), 150);
        DUE.is("30 spots", Due.read(x, 1, "a".repeat(29) + "[b]"), 32);
        DUE.is("6 parts", Due.read(x, 2, "a,b&c,d&!a,{b}"), 6);
        DUE.is("6 parts", x.look(2, 2), 6);
        DUE.is("10 (", Due.read(x, 3, "((((((((((a))))))))))((((((((((b))))))))))"), 4);
        DUE.is("10 !", Due.read(x, 3, "!!!!!!!!!!a&!!!!!!!!!!a"), 3);
        DUE.is("10 {", Due.read(x, 3, "{{{{{{{{{{a}}}}}}}}}}&{!{!{!{!{!a}}}}}"), 3);
        DUE.is("a ! ends with its side", Due.read(x, 3, "!{!a}&!{!b}&!{{{{{{{{{!{c}"), 0);
        DUE.is("a ! ends with its side", x.fault(0), 2);
        DUE.is("a ! ends with its side", x.fault(1), 22);
        DUE.is("100 bytes", Due.read(x, 3, "a" + "?".repeat(99)), 3);
        DUE.is("100 bytes", Due.read(x, 3, "[" + "a-d".repeat(32) + "ab]"), 3);
    }

    private static void isFault(String text, int number, int place) {
        WordMachines x = new WordMachines();
        DUE.is("read " + text, Due.read(x, 0, text), 0);
        DUE.is("fault(0) of " + text, x.fault(0), number);
        DUE.is("fault(1) of " + text, x.fault(1), place);
        DUE.is("fault(2) of " + text, x.fault(2), NONE);
        DUE.is("fault(-1) of " + text, x.fault(-1), NONE);
        DUE.is("look after " + text, x.look(0, 0), NONE);
    }

    private static void syntaxFaults() {
        isFault("", 1, 0);
        isFault(" ", 1, 0);
        isFault("a b", 1, 1);
        isFault("e", 1, 0);
        isFault("A", 1, 0);
        isFault("2", 1, 0);
        isFault("a,", 1, 2);
        isFault(",a", 1, 0);
        isFault("a&&b", 1, 2);
        isFault("a!b", 1, 1);
        isFault("a{b}", 1, 1);
        isFault("{a}b", 1, 3);
        isFault("{a}*", 1, 3);
        isFault("{a}|b", 1, 3);
        isFault("{}", 1, 1);
        isFault("{a", 1, 2);
        isFault("a}", 1, 1);
        isFault("{a}}", 1, 3);
        isFault("!", 1, 1);
        isFault("!*", 1, 1);
        isFault("()", 1, 1);
        isFault("(a", 1, 2);
        isFault("a)", 1, 1);
        isFault("(a,b)", 1, 2);
        isFault("(a&b)", 1, 2);
        isFault("(!a)", 1, 1);
        isFault("({a})", 1, 1);
        isFault("{(a})", 1, 3);
        isFault("a|", 1, 2);
        isFault("|a", 1, 0);
        isFault("a||b", 1, 2);
        isFault("(a|)", 1, 3);
        isFault("*", 1, 0);
        isFault("a|*", 1, 2);
        isFault("[", 1, 1);
        isFault("[]", 1, 1);
        isFault("[^]", 1, 2);
        isFault("[^^a]", 1, 2);
        isFault("[a^]", 1, 2);
        isFault("[-a]", 1, 1);
        isFault("[a", 1, 2);
        isFault("[a-", 1, 3);
        isFault("[a-]", 1, 3);
        isFault("[a-b", 1, 4);
        isFault("[a-b-c]", 1, 4);
        isFault("[b-a]", 1, 3);
        isFault("[a-bd-c]", 1, 6);
        isFault("[a.]", 1, 2);
        isFault("[e]", 1, 1);
        isFault("[a]]", 1, 3);
        isFault("^", 1, 0);
        isFault("a-b", 1, 1);
        isFault("a".repeat(30) + ",", 1, 31);
    }

    private static void manyFaults() {
        String thirty = "a.[b]".repeat(10);
        isFault(thirty + "a", 2, 50);
        isFault(thirty + ".", 2, 50);
        isFault(thirty + "[*", 2, 50);
        isFault(thirty + "|01(1)*b", 2, 57);
        isFault("c," + thirty + "a", 2, 52);
        isFault(thirty + "*)a", 1, 51);
        isFault("a,b&c,!{a|b},c&d,a", 2, 17);
        isFault("a,b&c,a,b&c,!(a)", 2, 13);
        isFault("a,b&c,a,b&c,0", 2, 12);
        isFault("a,b&c,a,b&c,[e", 2, 12);
        isFault("a,b&c,a,b&c,)", 1, 12);
        isFault("a,b&c,a,b&c,", 1, 12);
        isFault("((((((((((()", 2, 10);
        isFault("(a)(b)((((((((((()", 2, 16);
        isFault("(((((((((()", 1, 10);
        isFault("!!!!!!!!!!!a", 2, 10);
        isFault("{{{{{{{{{{{a", 2, 10);
        isFault("!{!{!{!{!{!a", 2, 10);
        isFault("!{{{{{{{{{{a", 2, 10);
        isFault("!a&{{{{{{{{{{!", 2, 13);
        isFault("{{{{{{{{{a&!a}&!!", 1, 17);
        isFault("{{{{{{{{{a&!!a", 2, 12);
        isFault("!!!!!!!!!!*", 1, 10);
    }

    private static void faultStays() {
        WordMachines x = new WordMachines();
        Due.read(x, 0, "a)");
        DUE.is("read(4) is no read", x.read(4, 0), NONE);
        DUE.is("read(0, 1) is no read", x.read(0, 1), NONE);
        DUE.is("so the fault stays", x.fault(0), 1);
        DUE.is("and its place", x.fault(1), 1);
        DUE.is("too many", Due.read(x, 0, ".*a.......b"), -2);
        DUE.is("has no fault", x.fault(0), 0);
        DUE.is("and no place", x.fault(1), NONE);
        Due.read(x, 0, "a,,");
        Due.read(x, 1, "a");
        DUE.is("nor has a good one", x.fault(0), 0);
        DUE.is("nor a place", x.fault(1), NONE);
        DUE.is("fault(MIN)", x.fault(Integer.MIN_VALUE), NONE);
        DUE.is("fault(MAX)", x.fault(Integer.MAX_VALUE), NONE);
    }

    private static void look() {
        WordMachines x = new WordMachines();
        Due.read(x, 1, "(a|b)*abb,c.&![cd]");
        DUE.is("parts", x.look(1, 2), 3);
        DUE.is("spots in all", x.look(1, 3), 8);
        DUE.is("means some", x.look(1, 4), 0);
        DUE.is("means infinitely many", x.look(1, 5), 0);
        DUE.is("what 6", x.look(1, 6), NONE);
        DUE.is("what -1", x.look(1, -1), NONE);
        DUE.is("slot 0", x.look(0, 0), NONE);
        Due.read(x, 1, "(a|b)*abb");
        DUE.is("states", x.look(1, 0), 6);
        DUE.is("classes", x.look(1, 1), 5);
        Due.read(x, 1, "a&b");
        DUE.is("means none", x.look(1, 4), 1);
        DUE.is("none are finitely many", x.look(1, 5), 1);
        DUE.is("one class", x.look(1, 1), 1);
        DUE.is("states none the less", x.look(1, 0), 4);
    }

    private static void isFinite(String text, int finite) {
        WordMachines x = new WordMachines();
        DUE.holds("read " + text, Due.read(x, 2, text) > 0);
        DUE.is("look(2, 5) of " + text, x.look(2, 5), finite);
    }

    private static void finitelyMany() {
        isFinite("0", 1);
        isFinite("1", 1);
        isFinite("abcd", 1);
        isFinite("a*", 0);
        isFinite("a*b", 0);
        isFinite("a*0", 1);
        isFinite("0*", 1);
        isFinite("1+", 1);
        isFinite("[^a-d]+", 1);
        isFinite("a*&b*", 1);
        isFinite("!a", 0);
        isFinite("!.*", 1);
        isFinite("!{!{ab,c}}", 1);
        isFinite("!..+", 1);
        isFinite("!...+&!a", 1);
        isFinite("(ab)*&(aba)*", 1);
        isFinite(".*a.*&!.*b.*&!aaa*", 0);
        isFinite("a?b?c?d?", 1);
        isFinite("b|a*b&!c", 0);
    }

    private static void steps() {
        WordMachines x = new WordMachines();
        Due.read(x, 0, "ab|c");
        int[][] rows = {{1, 2, 3, 2}, {2, 4, 2, 2}, {2, 2, 2, 2}, {2, 2, 2, 2}, {2, 2, 2, 2}};
        int[] accepting = {0, 0, 0, 1, 1};
        DUE.is("states", x.look(0, 0), 5);
        for (int k = 0; k < 5; k++) {
            for (int letter = 0; letter < 4; letter++) {
                DUE.is("next(0, " + k + ", " + letter + ")", x.next(0, k, letter), rows[k][letter]);
            }
            DUE.is("next(0, " + k + ", 4)", x.next(0, k, 4), NONE);
            DUE.is("next(0, " + k + ", -1)", x.next(0, k, -1), NONE);
            DUE.is("accepts(0, " + k + ")", x.accepts(0, k), accepting[k]);
        }
        DUE.is("next(0, 5, 0)", x.next(0, 5, 0), NONE);
        DUE.is("next(0, -1, 0)", x.next(0, -1, 0), NONE);
        DUE.is("next(1, 0, 0)", x.next(1, 0, 0), NONE);
        DUE.is("accepts(0, 5)", x.accepts(0, 5), NONE);
        DUE.is("accepts(0, -1)", x.accepts(0, -1), NONE);
        DUE.is("accepts(1, 0)", x.accepts(1, 0), NONE);
        Due.read(x, 0, "!ab,c&!{a,d}");
        DUE.is("! and & and ,", Due.means(x, 0, ""), 1);
        DUE.is("! and & and ,", Due.means(x, 0, "ab"), 0);
        Due.read(x, 0, "a,.&b");
        DUE.is("& is above ,", Due.means(x, 0, "a"), 1);
        Due.read(x, 0, "{a,.}&b");
        DUE.is("{ } is above &", Due.means(x, 0, "a"), 0);
        Due.read(x, 0, "!a&b");
        DUE.is("! is above &", Due.means(x, 0, "c"), 0);
        Due.read(x, 0, "!a|b");
        DUE.is("| is above !", Due.means(x, 0, "b"), 0);
        Due.read(x, 0, "a,b,c,d,aa,bb");
        DUE.is("any of six parts", Due.means(x, 0, "bb"), 1);
        DUE.is("none of six parts", Due.means(x, 0, "ab"), 0);
    }

    private static void spots() {
        WordMachines x = new WordMachines();
        DUE.is("states", Due.read(x, 2, "a.[b-c]&!.*,0"), 5);
        int[][] due = {{0, 0, 0}, {1, 1, 0}, {0, 1, 0}, {2, 1, 0}, {4, 1, 0}};
        for (int k = 0; k < 5; k++) {
            for (int p = 0; p < 3; p++) {
                DUE.is("spots(2, " + k + ", " + p + ")", x.spots(2, k, p), due[k][p]);
            }
            DUE.is("part 3", x.spots(2, k, 3), NONE);
            DUE.is("part -1", x.spots(2, k, -1), NONE);
        }
        DUE.is("state 5", x.spots(2, 5, 0), NONE);
        DUE.is("state -1", x.spots(2, -1, 0), NONE);
        DUE.is("slot 1", x.spots(1, 0, 0), NONE);
        Due.read(x, 2, "a?".repeat(30));
        DUE.is("thirty spots", x.spots(2, 1, 0), (1 << 30) - 1);
        Due.read(x, 2, "a+b?a*");
        DUE.is("a repeat", x.spots(2, 1, 0), 1);
        DUE.is("a repeat", x.spots(2, x.next(2, 1, 0), 0), 5);
    }

    private static void spotsBehindNothing() {
        WordMachines x = new WordMachines();
        DUE.is("a0", Due.read(x, 0, "a0"), 3);
        DUE.is("a0 stands", x.spots(0, 1, 0), 1);
        DUE.is("0a", Due.read(x, 0, "0a"), 2);
        DUE.is("a0b", Due.read(x, 0, "a0b"), 3);
        DUE.is("a[^a-d]b", Due.read(x, 0, "a[^a-d]b"), 3);
        DUE.is("(a0)*b", Due.read(x, 0, "(a0)*b"), 4);
        DUE.is("no way back through 0", x.next(0, 1, 0), 3);
        DUE.is("(a|0)(1|0)b", Due.read(x, 0, "(a|0)(1|0)b"), 4);
        DUE.is("behind 1", x.spots(0, x.next(0, 1, 1), 0), 2);
        DUE.is("0?a", Due.read(x, 0, "0?a"), 3);
        DUE.is("a*: state 0 comes no more", Due.read(x, 0, ".*"), 2);
        DUE.is("a*: state 0 has no spots", x.spots(0, 0, 0), 0);
    }

    private static void classes() {
        WordMachines x = new WordMachines();
        Due.read(x, 0, "(a|b)*abb");
        int[] due = {0, 1, 0, 2, 3, 4};
        for (int k = 0; k < 6; k++) {
            DUE.is("classOf(0, " + k + ")", x.classOf(0, k), due[k]);
        }
        DUE.is("classOf(0, 6)", x.classOf(0, 6), NONE);
        DUE.is("classOf(0, -1)", x.classOf(0, -1), NONE);
        DUE.is("classOf(1, 0)", x.classOf(1, 0), NONE);
        Due.read(x, 0, "aa|ba|ca");
        DUE.is("like states", x.classOf(0, 2), 1);
        DUE.is("like states", x.classOf(0, 3), 1);
        DUE.is("classes", x.look(0, 1), 4);
        Due.read(x, 0, "!0");
        DUE.is("all words: one class", x.look(0, 1), 1);
        Due.read(x, 0, "(" + "a".repeat(29) + ")*&(aaaaa)*");
        DUE.is("many rounds", x.look(0, 1), 146);
        DUE.is("many rounds", x.classOf(0, x.next(0, x.look(0, 0) - 1, 0)), x.classOf(0, 1));
    }

    private static void means() {
        WordMachines x = new WordMachines();
        Due.read(x, 0, "(ab)*");
        DUE.is("empty", Due.means(x, 0, ""), 1);
        DUE.is("abab", Due.means(x, 0, "abab"), 1);
        DUE.is("aba", Due.means(x, 0, "aba"), 0);
        DUE.is("no letter", Due.means(x, 0, "ab "), 0);
        DUE.is("no letter first", Due.means(x, 0, "eab"), 0);
        Due.read(x, 0, "!0");
        DUE.is("no letter, by !", Due.means(x, 0, "a`"), 0);
        DUE.is("the tape is empty then", x.means(0, 1), NONE);
        Due.feed(x, "abcd");
        DUE.is("no expression", x.means(1, 4), NONE);
        DUE.is("no slot", x.means(-1, 4), NONE);
        DUE.is("not so many", x.means(0, 21), NONE);
        DUE.is("not -1", x.means(0, -1), NONE);
        DUE.is("the tape stays", x.means(0, 4), 1);
        Due.feed(x, "abcd");
        DUE.is("none of them", x.means(0, 0), 1);
        DUE.is("the tape is empty, too", x.means(0, 1), NONE);
        Due.feed(x, "a");
        DUE.is("read by another slot", x.read(1, 1), 3);
        DUE.is("leaves fault", x.fault(0), 0);
    }

    private static void words() {
        WordMachines x = new WordMachines();
        Due.read(x, 0, "!0");
        for (int n = 0; n <= 28; n++) {
            DUE.is("all words of " + n, x.words(0, n), 1L << 2 * n);
        }
        DUE.is("words(0, 29)", x.words(0, 29), NONE);
        DUE.is("words(0, -1)", x.words(0, -1), NONE);
        DUE.is("words(1, 0)", x.words(1, 0), NONE);
        DUE.is("words(4, 0)", x.words(4, 0), NONE);
        Due.read(x, 0, "(a|bb)*");
        long one = 1;
        long two = 1;
        for (int n = 2; n <= 28; n++) {
            long sum = one + two;
            one = two;
            two = sum;
            DUE.is("Fibonacci " + n, x.words(0, n), sum);
        }
        Due.read(x, 0, "a&b");
        DUE.is("none", x.words(0, 1), 0);
    }

    private static void isWord(WordMachines x, int n, long k, String word) {
        DUE.is("word(0, " + n + ", " + k + ")", x.word(0, n, k) ? 1 : 0, 1);
        DUE.is("the word told", Due.told(x), word);
    }

    private static void word() {
        WordMachines x = new WordMachines();
        Due.read(x, 0, "!.*a.*&...");
        isWord(x, 3, 0, "bbb");
        isWord(x, 3, 1, "bbc");
        isWord(x, 3, 9, "cbb");
        isWord(x, 3, 26, "ddd");
        DUE.holds("place 27", !x.word(0, 3, 27));
        DUE.holds("place -1", !x.word(0, 3, -1));
        DUE.holds("two letters", !x.word(0, 2, 0));
        DUE.holds("-1 letters", !x.word(0, -1, 0));
        DUE.holds("29 letters", !x.word(0, 29, 0));
        DUE.holds("slot 1", !x.word(1, 3, 0));
        DUE.is("the word stays", Due.told(x), "ddd");
        Due.read(x, 0, "!0");
        isWord(x, 0, 0, "");
        DUE.holds("one empty word", !x.word(0, 0, 1));
        isWord(x, 28, (1L << 56) - 1, "d".repeat(28));
        isWord(x, 28, 1L << 54, "b" + "a".repeat(27));
        DUE.holds("not beyond", !x.word(0, 28, 1L << 56));
        DUE.holds("not beyond", !x.word(0, 28, Long.MAX_VALUE));
        DUE.holds("not below", !x.word(0, 28, Long.MIN_VALUE));
    }

    private static void isShortest(String text, String word) {
        WordMachines x = new WordMachines();
        Due.read(x, 0, text);
        DUE.is("shortest of " + text, x.shortest(0), word.length());
        DUE.is("the word told", Due.told(x), word);
    }

    private static void shortest() {
        isShortest("a*", "");
        isShortest("!1", "a");
        isShortest("!a*", "b");
        isShortest("ba|ab|ccc", "ab");
        isShortest("d|aa", "d");
        isShortest("(" + "a".repeat(29) + ")+&(aaaaa)+", "a".repeat(145));
        isShortest("!.?.?.?.?.?", "aaaaaa");
        isShortest(".*d.*&.*c.*&.*b.*", "bcd");
        WordMachines x = new WordMachines();
        Due.read(x, 0, "bc");
        x.shortest(0);
        Due.read(x, 0, "0");
        DUE.is("none", x.shortest(0), NONE);
        DUE.is("no expression", x.shortest(1), NONE);
        DUE.is("no slot", x.shortest(-1), NONE);
        DUE.is("the word stays", Due.told(x), "bc");
    }

    private static void isCompared(String one, String two, int due) {
        WordMachines x = new WordMachines();
        Due.read(x, 0, one);
        Due.read(x, 3, two);
        DUE.is("compare " + one + " with " + two, x.compare(0, 3), due);
        DUE.is("compare " + two + " with " + one, x.compare(3, 0), due == 1 ? 2 : due == 2 ? 1 : due);
        DUE.is("compare " + one + " with itself", x.compare(0, 0), 0);
    }

    private static void compare() {
        isCompared("a", "a", 0);
        isCompared("(a|b)*", "(a*b*)*", 0);
        isCompared("!{a,b}", "!a&!b", 0);
        isCompared("a+", "a*", 2);
        isCompared("!0", "a", 1);
        isCompared("a", "b", 3);
        isCompared("0", "1", 2);
        isCompared("0", "a0", 0);
        isCompared("(aaaaa)*", "(aaaaaaa)*", 3);
        isCompared("(aa)*&(aaa)*", "(aaaaaa)*", 0);
        isCompared("(" + "a".repeat(29) + ")*&(aaaaa)*", "(" + "a".repeat(29) + ")*", 2);
        isCompared("(" + "a".repeat(29) + ")*&(aaaaa)*", "(" + "a".repeat(28) + ")*,(aaaaa)*", 2);
        WordMachines x = new WordMachines();
        Due.read(x, 0, "a");
        DUE.is("no expression", x.compare(0, 1), NONE);
        DUE.is("no expression", x.compare(1, 0), NONE);
        DUE.is("no slot", x.compare(0, 4), NONE);
        DUE.is("no slot", x.compare(-1, 0), NONE);
    }

    private static void isDifferent(String one, String two, String word) {
        WordMachines x = new WordMachines();
        Due.read(x, 1, one);
        Due.read(x, 2, two);
        DUE.is("differ " + one + " and " + two, x.differ(1, 2), word.length());
        DUE.is("the word told", Due.told(x), word);
        DUE.is("differ " + two + " and " + one, x.differ(2, 1), word.length());
        DUE.is("the word told", Due.told(x), word);
    }

    private static void differ() {
        isDifferent("a", "!a", "");
        isDifferent("a", "b", "a");
        isDifferent("ab|c", "ba|c", "ab");
        isDifferent("ab|d", "ba", "d");
        isDifferent("(" + "a".repeat(29) + ")*&(aaaaa)*", "1", "a".repeat(145));
        isDifferent("(aaaaaaaaaaa)*&(aaaaaaaaaaaaa)*", "(aaaaaaaaaaaa)*&(aaaaaaaaaaa)*", "a".repeat(132));
        WordMachines x = new WordMachines();
        Due.read(x, 1, "cd");
        Due.read(x, 2, "cd&..");
        x.shortest(1);
        DUE.is("none", x.differ(1, 2), NONE);
        DUE.is("none with itself", x.differ(1, 1), NONE);
        DUE.is("no expression", x.differ(1, 3), NONE);
        DUE.is("no expression", x.differ(0, 1), NONE);
        DUE.is("no slot", x.differ(4, 1), NONE);
        DUE.is("no slot", x.differ(1, -1), NONE);
        DUE.is("the word stays", Due.told(x), "cd");
    }

    private static void letter() {
        WordMachines x = new WordMachines();
        Due.read(x, 0, "dcba,1");
        x.word(0, 4, 0);
        for (int i = 0; i < 4; i++) {
            DUE.is("letter(" + i + ")", x.letter(i), 3 - i);
        }
        DUE.is("letter(4)", x.letter(4), NONE);
        DUE.is("letter(-1)", x.letter(-1), NONE);
        DUE.is("letter(MAX)", x.letter(Integer.MAX_VALUE), NONE);
        DUE.is("letter(MIN)", x.letter(Integer.MIN_VALUE), NONE);
        Due.read(x, 0, "0");
        Due.read(x, 1, "a)");
        DUE.is("reads leave it", x.letter(0), 3);
        DUE.is("words", x.words(0, 3), 0);
        DUE.is("words leave it", x.letter(3), 0);
        Due.read(x, 0, "1");
        x.shortest(0);
        DUE.is("the empty word has none", x.letter(0), NONE);
    }

    /** No call may throw, whatever it is given, with expressions in the slots and without. */
    private static void wildArguments() {
        for (int a : WILD) {
            wildArguments(new WordMachines(), a);
            wildArguments(Due.with("a"), a);
        }
    }

    private static void wildArguments(WordMachines x, int a) {
        DUE.is("read", x.read(a, 0), NONE);
        DUE.is("look", x.look(a, 0), NONE);
        x.fault(a);
        x.letter(a);
        for (int b : WILD) {
            DUE.is("next", x.next(0, a, b), NONE);
            DUE.is("spots", x.spots(0, a, b), NONE);
            DUE.is("compare", x.compare(a, b), NONE);
            DUE.is("differ", x.differ(a, b), NONE);
            DUE.is("means", x.means(a, b), NONE);
            DUE.is("words", x.words(a, b), NONE);
            DUE.holds("word", !x.word(a, b, b));
        }
        DUE.is("accepts", x.accepts(0, a), NONE);
        DUE.is("classOf", x.classOf(0, a), NONE);
    }
}
