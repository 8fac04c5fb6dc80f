/** The terms: which texts are expressions, and which words they mean. */
final class TextSentences {
    private static final String TERMS = "Terms";

    static void say(Sentences all) {
        signs(all);
        joins(all);
        parts(all);
        atoms(all);
        spots(all);
        meaning(all);
        repeats(all);
    }

    private static void signs(Sentences all) {
        all.say(TERMS, "WORDS are rows of the LETTERS a b c d.", due -> {
            due.counts("!0", 1, 4, 16, 64);
            due.meant("!0", "", "a", "b", "c", "d", "abcd", "dcba");
            due.notMeant("!0", "e", "`", "A", "1", " a", "a ", "\u00e1", "\0");
        });
        all.say(TERMS, "A TEXT (bytes; no blanks) is an EXPRESSION:", due -> {
            due.good("a");
            due.fault("", 1, 0);
            due.fault(" ", 1, 0);
            due.fault(" a", 1, 0);
            due.fault("a ", 1, 1);
            due.fault("a b", 1, 1);
            due.fault("a, b", 1, 2);
            due.fault("[a b]", 1, 2);
            due.fault("(a )", 1, 2);
        });
    }

    private static void joins(Sentences all) {
        all.say(TERMS, "TOP: MEET { , MEET }.", due -> {
            due.good("a", "a,b", "a,b,c,d,a,b", "{a,b},c");
            due.fault(",", 1, 0);
            due.fault(",a", 1, 0);
            due.fault("a,", 1, 2);
            due.fault("a,,b", 1, 2);
        });
        all.say(TERMS, "MEET: SIDE { & SIDE }.", due -> {
            due.good("a&b", "a&b&c&d&a&b", "a,b&c,d", "!a&!b");
            due.fault("&", 1, 0);
            due.fault("&a", 1, 0);
            due.fault("a&", 1, 2);
            due.fault("a&&b", 1, 2);
            due.fault("a&,b", 1, 2);
            due.fault("a,&b", 1, 2);
        });
        String side = "SIDE: ! SIDE, or { TOP } (the signs { and } stand for themselves there), or a PART.";
        all.say(TERMS, side, due -> {
            due.good("!a", "!!a", "{a}", "{a,b&c}", "!{a}", "{!a}", "{{a}}", "{a}&{b}", "!a|b*");
            due.fault("!", 1, 1);
            due.fault("a!", 1, 1);
            due.fault("!&a", 1, 1);
            due.fault("{", 1, 1);
            due.fault("{}", 1, 1);
            due.fault("}", 1, 0);
            due.fault("{a", 1, 2);
            due.fault("a}", 1, 1);
            due.fault("{a}}", 1, 3);
            due.fault("{!}", 1, 2);
            due.fault("{a,}", 1, 3);
            due.fault("{a}b", 1, 3);
            due.fault("a{b}", 1, 1);
            due.fault("{a}{b}", 1, 3);
            due.fault("{a}!b", 1, 3);
            due.fault("{a}*", 1, 3);
            due.fault("{a}|b", 1, 3);
            due.fault("a|{b}", 1, 2);
            due.fault("a|!b", 1, 2);
        });
    }

    private static void parts(Sentences all) {
        all.say(TERMS, "PART: ROW { | ROW }.", due -> {
            due.good("a|b", "a|b|c|d", "a|" + "0|".repeat(48) + "1");
            due.fault("|", 1, 0);
            due.fault("|a", 1, 0);
            due.fault("a|", 1, 2);
            due.fault("a||b", 1, 2);
            due.fault("(a|)", 1, 3);
            due.fault("a|,b", 1, 2);
        });
        all.say(TERMS, "ROW: ITEM { ITEM }.", due -> {
            due.good("a", "ab", "a*b+", "1".repeat(100));
            due.fault("()", 1, 1);
            due.fault("a()", 1, 2);
            due.fault("(|a)", 1, 1);
        });
        all.say(TERMS, "ITEM: ATOM { * or + or ? }.", due -> {
            due.good("a*", "a+", "a?", "a*+?*+?", "(a)*+", "[a]*?", "0*", "1?", ".+");
            due.fault("*", 1, 0);
            due.fault("+a", 1, 0);
            due.fault("?", 1, 0);
            due.fault("a|*", 1, 2);
            due.fault("(*a)", 1, 1);
            due.fault("!*", 1, 1);
        });
        all.say(TERMS, "(The rest of the braces in this grammar mean: any number of times.)", due -> {
            due.good("a" + "*".repeat(99), "a" + "+".repeat(99), "a" + "?".repeat(99));
            due.good("a".repeat(30), "a|".repeat(29) + "a", "a*".repeat(30), "0&1&0&1&0&1");
            due.states("a" + "*+?".repeat(33), 3);
        });
    }

    private static void atoms(Sentences all) {
        String atom = "ATOM: a LETTER; . ; [ or [^ , then one or more of LETTER and LETTER-LETTER"
            + " (the second one not ahead of the first), then ] ; ( PART ) ; 0 ; 1.";
        all.say(TERMS, atom, due -> {
            due.good("a", "b", "c", "d", ".", "0", "1", "(a)", "((a|b)*)", "[a]", "[^d]", "[abcd]", "[ab-cd]");
            due.good("[a-a]", "[d-d]", "[a-d]", "[^a-da]", "[" + "a-d".repeat(32) + "ab]", "[^" + "d".repeat(97) + "]");
            due.fault("[]", 1, 1);
            due.fault("[^]", 1, 2);
            due.fault("[b-a]", 1, 3);
            due.fault("[-a]", 1, 1);
            due.fault("[a-]", 1, 3);
            due.fault("[a--b]", 1, 3);
            due.fault("[a-b-c]", 1, 4);
            due.fault("[a^]", 1, 2);
            due.fault("[^^a]", 1, 2);
            due.fault("[a]]", 1, 3);
            due.fault("[[a]", 1, 1);
            due.fault("[.]", 1, 1);
            due.fault("[a0]", 1, 2);
            due.fault("[e]", 1, 1);
            due.fault("[a-e]", 1, 3);
            due.fault("(a))", 1, 3);
            due.fault("(a", 1, 2);
            due.fault("{(a})", 1, 3);
        });
    }

    private static void isSpots(Due due, String text, int spots, int letters) {
        WordMachines x = Due.with(text);
        due.is("look(0, 3) of " + text, x.look(0, 3), spots);
        due.is("words(0, 1) of " + text, x.words(0, 1), letters);
    }

    private static void spots(Sentences all) {
        String spot = "A SPOT is an ATOM that is a LETTER, a . (each LETTER), or has [ ]"
            + " (those in it; with ^ those not in it: maybe none).";
        all.say(TERMS, spot, due -> {
            isSpots(due, "0", 0, 0);
            isSpots(due, "1", 0, 0);
            isSpots(due, "((1))", 0, 0);
            isSpots(due, "a", 1, 1);
            isSpots(due, ".", 1, 4);
            isSpots(due, "[c]", 1, 1);
            isSpots(due, "[cac]", 1, 2);
            isSpots(due, "[a-d]", 1, 4);
            isSpots(due, "[b-b]", 1, 1);
            isSpots(due, "[^b]", 1, 3);
            isSpots(due, "[^a-c]", 1, 1);
            isSpots(due, "[^a-d]", 1, 0);
            isSpots(due, "[^abcd]", 1, 0);
            due.meant("[^ac]", "b", "d");
            due.notMeant("[^ac]", "a", "c", "");
        });
        String numbers = "SPOTS are numbered in each PART as they come, 30 at most; PARTS as they come, 6 at most.";
        all.say(TERMS, numbers, due -> {
            WordMachines x = Due.with("a".repeat(28) + "(b|c)", "a,b,c,d,[ab],[cd]", "d,(cb)a");
            due.is("the 1st spot", x.spots(0, 1, 0), 1);
            due.is("the 29th spot", x.spots(0, Due.behind(x, 0, "a".repeat(28) + "b"), 0), 1 << 28);
            due.is("the 30th spot", x.spots(0, Due.behind(x, 0, "a".repeat(28) + "c"), 0), 1 << 29);
            for (int p = 0; p < 6; p++) {
                due.is("spots(1, behind a, " + p + ")", x.spots(1, 1, p), p == 0 || p == 4 ? 1 : 0);
                due.is("spots(1, behind d, " + p + ")", x.spots(1, Due.behind(x, 1, "d"), p), p == 3 || p == 5 ? 1 : 0);
            }
            due.is("the second part counts anew", x.spots(2, Due.behind(x, 2, "c"), 1), 1);
            due.is("its second one", x.spots(2, Due.behind(x, 2, "cb"), 1), 2);
            due.is("its third one", x.spots(2, Due.behind(x, 2, "cba"), 1), 4);
            due.fault("a".repeat(31), 2, 30);
            due.fault("a,b,c,d,a,b,c", 2, 12);
        });
    }

    private static void meaning(Sentences all) {
        all.say(TERMS, "WHAT IS MEANT: a SPOT: the WORDS of one LETTER of its set.", due -> {
            due.counts("a", 0, 1, 0);
            due.counts(".", 0, 4, 0);
            due.counts("[b-d]", 0, 3, 0);
            due.counts("[^a-d]", 0, 0, 0);
        });
        all.say(TERMS, "0: none.", due -> {
            due.counts("0", new long[29]);
            due.counts("0a|a0|0*0", 0, 0, 0);
        });
        all.say(TERMS, "1: the empty WORD alone.", due -> {
            due.counts("1", 1, 0, 0, 0);
            due.counts("1a1", 0, 1, 0, 0);
        });
        all.say(TERMS, "ROW: WORDS put together;", due -> {
            due.meant("abc", "abc");
            due.notMeant("abc", "", "ab", "bc", "abcd", "cba");
            due.counts("(a|1)(b|1)", 1, 2, 1, 0);
        });
        all.say(TERMS, "|, and , : those of one or the other;", due -> {
            due.counts("a|bb|0|1", 1, 1, 1, 0);
            due.counts("a,bb,0,1", 1, 1, 1, 0);
            due.counts("a|a,a", 0, 1, 0);
        });
        all.say(TERMS, "& : those of both; ! : those that are not.", due -> {
            due.counts("[ab]&[bc]", 0, 1, 0);
            due.counts("a&0", 0, 0, 0);
            due.counts("a&!a", 0, 0, 0);
            due.counts("a,!a", 1, 4, 16);
            due.counts("!1", 0, 4, 16);
            due.counts("!.*", 0, 0, 0);
            due.counts("!!a", 0, 1, 0);
            due.counts("!!!!!!!!!a", 1, 3, 16);
        });
        all.say(TERMS, "(So , & ! join PARTS; | * + ? and rows are within PARTS.)", due -> {
            due.fault("(a,b)", 1, 2);
            due.fault("(a&b)", 1, 2);
            due.fault("(!a)", 1, 1);
            due.fault("({a})", 1, 1);
            due.fault("{a}?", 1, 3);
            due.counts("!a|b", 1, 2, 16);
            due.counts("!ab*", 1, 3, 15);
            due.counts("!a,b", 1, 3, 16);
            due.counts("a,.&b", 0, 2, 0);
            due.counts("a&b,.", 0, 4, 0);
        });
    }

    private static void repeats(Sentences all) {
        String repeat = "X*: any number of X's put together (none, too), X+: one or more, X?: one or none;";
        all.say(TERMS, repeat, due -> {
            due.counts("(ab)*", 1, 0, 1, 0, 1, 0, 1);
            due.counts("(ab)+", 0, 0, 1, 0, 1, 0, 1);
            due.counts("(ab)?", 1, 0, 1, 0, 0);
            due.counts("0*", 1, 0, 0);
            due.counts("0+", 0, 0, 0);
            due.counts("0?", 1, 0, 0);
            due.counts("1*", 1, 0, 0);
            due.counts("1+", 1, 0, 0);
            due.counts("1?", 1, 0, 0);
            due.counts("(a?)+", 1, 1, 1);
            due.counts("a?*", 1, 1, 1);
            due.counts("a+?", 1, 1, 1);
            due.counts("(a*b*)+", 1, 2, 4, 8);
            due.counts("[^a-d]*", 1, 0, 0);
            due.counts("ab*", 0, 1, 1, 1);
        });
    }
}
