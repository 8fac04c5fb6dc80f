import java.util.Arrays;

/** Promises 10 to 16: the words that slots mean. */
final class WordSentences {
    private static final int NONE = WordMachines.NONE;
    private static final String STATES_150 = Edges.STATES_150;
    private static final String EACH_145TH = "(" + "a".repeat(29) + ")+&(aaaaa)+";
    /** The letter a n times, for n = 142, 142 + 143, .. and for n = 142, 142 + 144, .. */
    private static final String FROM_142_BY_143 = "(" + "a".repeat(11) + ")*" + "a".repeat(10)
        + "&(" + "a".repeat(13) + ")*" + "a".repeat(12);
    private static final String FROM_142_BY_144 = "(" + "a".repeat(9) + ")*" + "a".repeat(7)
        + "&(" + "a".repeat(16) + ")*" + "a".repeat(14);

    static void say(Sentences all) {
        means(all);
        words(all);
        word(all);
        shortest(all);
        compare(all);
        differ(all);
        letter(all);
    }

    private static void means(Sentences all) {
        String title = "Promise 10: means";
        all.say(title, "Whether SLOT s means the WORD that the first n bytes of the tape (empty then) are:", due -> {
            WordMachines x = Due.with("(ab)*", "1", "0", "a" + "?".repeat(99));
            Due.feed(x, "abab");
            due.is("two of four", x.means(0, 2), 1);
            due.is("empty then", x.means(0, 1), NONE);
            Due.feed(x, "abab");
            due.is("three of four", x.means(0, 3), 0);
            due.is("empty behind 0, too", x.means(0, 1), NONE);
            Due.feed(x, "abab");
            due.is("none of four", x.means(0, 0), 1);
            due.is("empty behind none of four", x.means(0, 1), NONE);
            due.is("none of none", x.means(0, 0), 1);
            due.is("the empty word, by 1", x.means(1, 0), 1);
            due.is("the empty word, by 0", x.means(2, 0), 0);
            due.is("a hundred", Due.means(x, 0, "ab".repeat(50)), 1);
            due.is("a hundred, the last one wrong", Due.means(x, 0, "ab".repeat(49) + "aa"), 0);
            due.is("the tape takes more", x.feed(0, 0, 0, 0, 0), 20);
        });
        all.say(title, "1, 0 (also if one is no LETTER);", due -> {
            due.meant("!0", "", "a", "abcd");
            for (char sign = 0; sign < 256; sign++) {
                boolean letter = sign >= 'a' && sign <= 'd';
                due.is("means of sign " + (int) sign, Due.means(Due.with("!0"), 0, "a" + sign), letter ? 1 : 0);
            }
            due.notMeant("!0", "eabcd", "ab`cd", "abcd ", "\u00ff", "\0a");
            WordMachines x = Due.with("!0");
            Due.means(x, 0, "e");
            due.is("the tape is empty then", x.means(0, 1), NONE);
        });
        all.say(title, "NONE: no EXPRESSION, or it has not so many (the tape stays).", due -> {
            WordMachines x = Due.with("abcd");
            Due.feed(x, "abcd");
            due.is("means(1, 4)", x.means(1, 4), NONE);
            for (int s : Edges.NO_SLOTS) {
                due.is("means(" + s + ", 4)", x.means(s, 4), NONE);
            }
            for (int n : Edges.NO_COUNTS) {
                due.is("means(0, " + n + ")", x.means(0, n), NONE);
            }
            due.is("the tape stays", x.means(0, 4), 1);
        });
    }

    private static void words(Sentences all) {
        String title = "Promise 11: words";
        all.say(title, "How many WORDS of n LETTERS (0 to 28) it means;", due -> {
            WordMachines x = Due.with("!0", "a".repeat(28), "0", "!{1,.*a}");
            for (int n = 0; n <= 28; n++) {
                due.is("words(0, " + n + ")", x.words(0, n), 1L << 2 * n);
                due.is("words(1, " + n + ")", x.words(1, n), n == 28 ? 1 : 0);
                due.is("words(2, " + n + ")", x.words(2, n), 0);
                due.is("words(3, " + n + ")", x.words(3, n), n == 0 ? 0 : 3L << 2 * n - 2);
            }
            WordMachines y = Due.with("!{" + STATES_150 + "}", STATES_150);
            due.is("by 150 states", y.words(0, 28), 1L << 56);
            due.is("by 150 states", y.words(0, 25), (1L << 50) - 1);
            due.is("by 150 states", y.words(1, 3), 1);
        });
        all.say(title, "NONE: no EXPRESSION, no such n.", due -> {
            WordMachines x = Due.with("!0");
            for (int n : Edges.NO_LENGTHS) {
                due.is("words(0, " + n + ")", x.words(0, n), NONE);
            }
            due.is("words(1, 0)", x.words(1, 0), NONE);
            for (int s : Edges.NO_SLOTS) {
                due.is("words(" + s + ", 0)", x.words(s, 0), NONE);
            }
        });
    }

    private static void isWord(Due due, WordMachines x, int s, int n, long k, String word) {
        String call = "word(" + s + ", " + n + ", " + k + ")";
        due.holds(call, x.word(s, n, k));
        due.is("told by " + call, Due.told(x), word);
    }

    private static void word(Sentences all) {
        String title = "Promise 12: word";
        String told = "The WORD told is that of place k (from 0 on) among those of n LETTERS (0 to 28),"
            + " in the order of LETTERS: true;";
        all.say(title, told, due -> {
            WordMachines x = Due.with("[bd][^b].&!.*d", "!0", "(a|b)*b|1");
            String[] words = new String[18];
            for (int k = 0; k < 18; k++) {
                words[k] = "" + "bd".charAt(k / 9) + "acd".charAt(k / 3 % 3) + "abc".charAt(k % 3);
                isWord(due, x, 0, 3, k, words[k]);
            }
            String[] sorted = words.clone();
            Arrays.sort(sorted);
            due.holds("the order is that of letters", Arrays.equals(words, sorted));
            isWord(due, x, 1, 0, 0, "");
            isWord(due, x, 1, 1, 3, "d");
            isWord(due, x, 1, 28, 0, "a".repeat(28));
            isWord(due, x, 1, 28, 1L << 54, "b" + "a".repeat(27));
            isWord(due, x, 1, 28, (1L << 56) - 1, "d".repeat(28));
            isWord(due, x, 1, 28, 1L << 32, "a".repeat(11) + "b" + "a".repeat(16));
            isWord(due, x, 2, 0, 0, "");
            isWord(due, x, 2, 28, (1L << 27) - 1, "b".repeat(28));
            Due.read(x, 3, STATES_150);
            isWord(due, x, 3, 25, 0, "a".repeat(25));
            isWord(due, x, 3, 3, 0, "bbb");
        });
        all.say(title, "false: there is none such.", due -> {
            WordMachines x = Due.with("ab|ba", "!0", "0");
            due.holds("there is a last one", x.word(0, 2, 1));
            for (long k : new long[] {2, 3, 1L << 32, Long.MAX_VALUE, -1, -(1L << 32), Long.MIN_VALUE}) {
                due.holds("no word(0, 2, " + k + ")", !x.word(0, 2, k));
            }
            for (int n : Edges.NO_LENGTHS) {
                due.holds("no word(1, " + n + ", 0)", !x.word(1, n, 0));
            }
            for (int n = 0; n <= 28; n++) {
                due.holds("no word(1, " + n + ") beyond the last", !x.word(1, n, 1L << 2 * n));
                due.holds("no word(2, " + n + ", 0)", !x.word(2, n, 0));
            }
            due.holds("no word(0, 0, 0)", !x.word(0, 0, 0));
            due.holds("no word(0, 1, 0)", !x.word(0, 1, 0));
            due.holds("no word(3, 0, 0)", !x.word(3, 0, 0));
            for (int s : Edges.NO_SLOTS) {
                due.holds("no word(" + s + ", 0, 0)", !x.word(s, 0, 0));
            }
            due.is("the word told stays", Due.told(x), "ba");
        });
    }

    private static void isShortest(Due due, String text, String word) {
        WordMachines x = Due.with("", "", text);
        due.is("shortest(2) of " + text, x.shortest(2), word.length());
        due.is("told by shortest(2) of " + text, Due.told(x), word);
    }

    private static void shortest(Sentences all) {
        String title = "Promise 13: shortest";
        String told = "The WORD told is the shortest that it means, of like ones the first in order: how many LETTERS;";
        all.say(title, told, due -> {
            isShortest(due, "1", "");
            isShortest(due, "a*", "");
            isShortest(due, "!1", "a");
            isShortest(due, "!a*", "b");
            isShortest(due, "d|aa", "d");
            isShortest(due, "ccc|ba|ab", "ab");
            isShortest(due, "bd|bca|cb", "bd");
            isShortest(due, ".*d.*&.*c.*&.*b.*", "bcd");
            isShortest(due, "a".repeat(30), "a".repeat(30));
            isShortest(due, EACH_145TH, "a".repeat(145));
        });
        all.say(title, "NONE: it means none, no EXPRESSION.", due -> {
            WordMachines x = Due.with("0", "a&b", "cd");
            x.shortest(2);
            due.is("shortest(0)", x.shortest(0), NONE);
            due.is("shortest(1)", x.shortest(1), NONE);
            due.is("shortest(3)", x.shortest(3), NONE);
            for (int s : Edges.NO_SLOTS) {
                due.is("shortest(" + s + ")", x.shortest(s), NONE);
            }
            due.is("the word told stays", Due.told(x), "cd");
        });
    }

    private static void isCompared(Due due, String one, String other, int answer) {
        WordMachines x = Due.with(one, "", "", other);
        due.is("compare " + one + " with " + other, x.compare(0, 3), answer);
        due.is("compare " + other + " with " + one, x.compare(3, 0), answer == 1 ? 2 : answer == 2 ? 1 : answer);
    }

    /** The only word that one means, not the other, leads to the last state of both. */
    private static void lastStatesDiffer(Due due) {
        for (int m = 1; m <= 20; m++) {
            for (int n = 0; n <= m && m + n <= 30; n++) {
                String word = "d".repeat(m);
                isCompared(due, word, "c".repeat(n) + "0|" + word + "0", 1);
            }
        }
    }

    private static void compare(Sentences all) {
        String title = "Promise 14: compare";
        all.say(title, "Whether SLOTS s and t mean the same: 0;", due -> {
            isCompared(due, "a", "a", 0);
            isCompared(due, "0", "a&b", 0);
            isCompared(due, "!0", ".*", 0);
            isCompared(due, "(a|b)*", "(a*b*)*", 0);
            isCompared(due, "(aa)*&(aaa)*", "(aaaaaa)*", 0);
            isCompared(due, STATES_150, "bbb,(aaaaa)*,(" + "a".repeat(29) + ")*", 0);
            due.is("compare(2, 2)", Due.with("a", "b", "c").compare(2, 2), 0);
        });
        all.say(title, "1 s means all that t means, and more; 2 t all of s, and more; 3 neither;", due -> {
            isCompared(due, "a*", "a+", 1);
            isCompared(due, "1", "0", 1);
            isCompared(due, "!0", "!" + EACH_145TH.replace("&", "&!!"), 1);
            isCompared(due, "0", "a", 2);
            isCompared(due, "(aaaaaa)*", "(aa)*", 2);
            isCompared(due, EACH_145TH, "(aaaaa)*", 2);
            isCompared(due, "a", "b", 3);
            isCompared(due, "1", "!1", 3);
            isCompared(due, "(aaaaa)*", "(aaaaaaa)*", 3);
            isCompared(due, FROM_142_BY_143, FROM_142_BY_144, 3);
            isCompared(due, STATES_150, STATES_150.replace("aaaaa)*,b", "aaaaa)*&!b"), 1);
            isCompared(due, "(aaaaa)*a", "a|aaaa", 3);
            isCompared(due, "(aaaaa)*a|aa", "a", 1);
            lastStatesDiffer(due);
        });
        all.say(title, "NONE: no EXPRESSIONS.", due -> {
            WordMachines x = Due.with("a");
            due.is("compare(0, 1)", x.compare(0, 1), NONE);
            due.is("compare(1, 0)", x.compare(1, 0), NONE);
            due.is("compare(1, 1)", x.compare(1, 1), NONE);
            for (int s : Edges.NO_SLOTS) {
                due.is("compare(0, " + s + ")", x.compare(0, s), NONE);
                due.is("compare(" + s + ", 0)", x.compare(s, 0), NONE);
                due.is("compare(" + s + ", " + s + ")", x.compare(s, s), NONE);
            }
        });
    }

    private static void isDifferent(Due due, String one, String other, String word) {
        WordMachines x = Due.with("", one, other);
        due.is("differ " + one + " and " + other, x.differ(1, 2), word.length());
        due.is("told by differ of " + one + " and " + other, Due.told(x), word);
        WordMachines y = Due.with("", one, other);
        due.is("differ " + other + " and " + one, y.differ(2, 1), word.length());
        due.is("told by differ of " + other + " and " + one, Due.told(y), word);
    }

    private static void againAndAgain(Due due) {
        String[] texts = {"a*", "ab*|1", "a|b*", "a*0|cd"};
        int[][] lengths = {{NONE, 2, 1, 0}, {2, NONE, 1, 0}, {1, 1, NONE, 0}, {0, 0, 0, NONE}};
        String[][] words = {{"", "aa", "b", ""}, {"aa", "", "b", ""}, {"b", "b", "", ""}, {"", "", "", ""}};
        WordMachines x = Due.with(texts);
        for (int turn = 0; turn < 48; turn++) {
            int s = turn * 7 % 4;
            int t = turn / 4 % 4;
            due.is("differ " + texts[s] + " and " + texts[t], x.differ(s, t), lengths[s][t]);
            if (s != t) {
                due.is("told by differ " + texts[s] + " and " + texts[t], Due.told(x), words[s][t]);
            }
        }
    }

    private static void differ(Sentences all) {
        String title = "Promise 15: differ";
        String told = "The WORD told is the shortest that one of s and t means, not the other,"
            + " of like ones the first in order: how many LETTERS;";
        all.say(title, told, due -> {
            isDifferent(due, "a", "!a", "");
            isDifferent(due, "a*", "a+", "");
            isDifferent(due, "a", "b", "a");
            isDifferent(due, "d|aa", "0", "d");
            isDifferent(due, "dc|ca", "cb", "ca");
            isDifferent(due, "ab|d", "ba", "d");
            isDifferent(due, "a|bc", "a|bd", "bc");
            isDifferent(due, EACH_145TH, "0", "a".repeat(145));
            isDifferent(due, FROM_142_BY_143, FROM_142_BY_144, "a".repeat(285));
            isDifferent(due, STATES_150, STATES_150.replace("bbb", "bba"), "bba");
            againAndAgain(due);
        });
        all.say(title, "NONE: there is none, no EXPRESSIONS.", due -> {
            WordMachines x = Due.with("cd", "cd&..", "0");
            x.shortest(0);
            due.is("differ(0, 1)", x.differ(0, 1), NONE);
            due.is("differ(0, 0)", x.differ(0, 0), NONE);
            due.is("differ(2, 2)", x.differ(2, 2), NONE);
            due.is("differ(0, 3)", x.differ(0, 3), NONE);
            due.is("differ(3, 0)", x.differ(3, 0), NONE);
            due.is("differ(3, 3)", x.differ(3, 3), NONE);
            for (int s : Edges.NO_SLOTS) {
                due.is("differ(0, " + s + ")", x.differ(0, s), NONE);
                due.is("differ(" + s + ", 0)", x.differ(s, 0), NONE);
            }
            due.is("the word told stays", Due.told(x), "cd");
        });
    }

    private static void letter(Sentences all) {
        String title = "Promise 16: letter";
        String told = "LETTER i of the WORD told last by word(), shortest(), differ() (that was not NONE, false), 0 to 3;";
        all.say(title, told, due -> {
            WordMachines x = Due.with("dcba", "1", "dc");
            due.holds("word", x.word(0, 4, 0));
            for (int i = 0; i < 4; i++) {
                due.is("letter(" + i + ")", x.letter(i), 3 - i);
            }
            due.is("shortest", x.shortest(2), 2);
            due.is("told by shortest", Due.told(x), "dc");
            due.is("differ", x.differ(0, 1), 0);
            due.is("told by differ", Due.told(x), "");
            due.is("shortest", x.shortest(0), 4);
            due.holds("no word", !x.word(0, 3, 0));
            due.is("no shortest", x.shortest(3), NONE);
            due.is("no differ", x.differ(0, 0), NONE);
            due.is("told before those", Due.told(x), "dcba");
            x.words(2, 2);
            x.compare(0, 2);
            Due.means(x, 2, "ab");
            Due.read(x, 0, "ab");
            Due.read(x, 1, "ab)");
            due.is("others tell no word", Due.told(x), "dcba");
        });
        all.say(title, "NONE if there is none.", due -> {
            WordMachines x = Due.with("abcd|1|b", FROM_142_BY_143, FROM_142_BY_144);
            due.is("none told yet", x.letter(0), NONE);
            due.holds("four letters", x.word(0, 4, 0));
            for (int i : new int[] {Edges.MIN, -1, 4, 5, 28, 299, 300, Edges.MAX}) {
                due.is("letter(" + i + ")", x.letter(i), NONE);
            }
            due.holds("one letter", x.word(0, 1, 0));
            due.is("its letter", x.letter(0), 1);
            due.is("none of the longer one", x.letter(1), NONE);
            due.is("no letters", x.shortest(0), 0);
            due.is("none of the empty word", x.letter(0), NONE);
            due.is("285 letters", x.differ(1, 2), 285);
            due.is("the last one", x.letter(284), 0);
            due.is("none behind it", x.letter(285), NONE);
        });
    }
}
