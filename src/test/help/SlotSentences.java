/** Promises 1 to 9: the tape, the slots, and the states in them. */
final class SlotSentences {
    private static final int NONE = WordMachines.NONE;
    private static final int ABCD = 0x61626364;
    private static final String TOO_MANY = Edges.TOO_MANY;
    private static final String STATES_150 = Edges.STATES_150;

    /** A call that asks for something of a state. */
    private interface OfState {
        long ask(WordMachines x, int s, int k);
    }

    static void say(Sentences all) {
        newObject(all);
        feed(all);
        read(all);
        fault(all);
        look(all);
        next(all);
        accepts(all);
        spots(all);
        classes(all);
    }

    private static int feedWord(WordMachines x) {
        return x.feed(ABCD, ABCD, ABCD, ABCD, ABCD);
    }

    private static void newObject(Sentences all) {
        all.say("Promise 1: A new object", "SLOTS 0 to 3 without EXPRESSIONS, an empty tape.", due -> {
            WordMachines x = new WordMachines();
            for (int s = 0; s < 4; s++) {
                for (int what = 0; what < 6; what++) {
                    due.is("look(" + s + ", " + what + ")", x.look(s, what), NONE);
                }
                due.is("next", x.next(s, 0, 0), NONE);
                due.is("accepts", x.accepts(s, 0), NONE);
                due.is("spots", x.spots(s, 0, 0), NONE);
                due.is("classOf", x.classOf(s, 0), NONE);
                due.is("means", x.means(s, 0), NONE);
                due.is("words", x.words(s, 0), NONE);
                due.holds("no word", !x.word(s, 0, 0));
                due.is("shortest", x.shortest(s), NONE);
                due.is("compare", x.compare(s, s), NONE);
                due.is("differ", x.differ(s, s), NONE);
                due.is("the tape is empty", x.read(s, 1), NONE);
            }
            due.is("the first feed", feedWord(x), 20);
            WordMachines y = new WordMachines();
            for (int s = 0; s < 4; s++) {
                due.is("there is a slot " + s, Due.read(y, s, "a".repeat(s + 1)), s + 3);
            }
            for (int s = 0; s < 4; s++) {
                due.is("slot " + s + " is one of its own", y.look(s, 3), s + 1);
            }
            for (int s : Edges.NO_SLOTS) {
                due.is("there is no slot " + s, y.read(s, 0), NONE);
                due.is("nor its look", y.look(s, 0), NONE);
            }
        });
    }

    private static void feed(Sentences all) {
        String title = "Promise 2: feed";
        all.say(title, "Twenty bytes come behind the tape, the highest of each int first: how many it has;", due -> {
            WordMachines x = Due.with(".*");
            due.is("the first feed", x.feed(0x61626364, 0x64636261, 0x62626161, 0x63636464, 0x61616161), 20);
            due.is("read", x.read(1, 20), 22);
            x.shortest(1);
            due.is("the bytes", Due.told(x), "abcddcbabbaaccddaaaa");
            for (int i = 1; i <= 5; i++) {
                due.is("feed " + i, feedWord(x), 20L * i);
            }
            due.is("a hundred", x.means(0, 100), 1);
            feedWord(x);
            x.feed(0x64202020, 0, 0, 0, 0);
            due.is("what comes is behind what is there", x.read(1, 21), 23);
            x.shortest(1);
            due.is("the bytes", Due.told(x), "abcdabcdabcdabcdabcdd");
            x.feed(0xE1626364, ABCD, ABCD, ABCD, ABCD);
            due.is("a negative int's highest byte", x.read(1, 20), 0);
            due.is("is no letter", x.fault(1), 0);
            x.feed(0x61E16364, ABCD, ABCD, ABCD, ABCD);
            due.is("nor is one above 127", x.read(1, 20), 0);
            due.is("at its place", x.fault(1), 1);
            x.feed(0x61FFFFFF, -1, -1, -1, -1);
            due.is("a byte 255 spoils none ahead of it", x.read(1, 1), 3);
        });
        all.say(title, "NONE if that would be more than 100.", due -> {
            WordMachines x = Due.with("(abcd)*");
            for (int i = 1; i <= 5; i++) {
                due.is("feed " + i, feedWord(x), 20L * i);
            }
            due.is("feed 6", x.feed(0, 0, 0, 0, 0), NONE);
            due.is("feed 7", x.feed(Edges.MAX, Edges.MIN, -1, 1, 0), NONE);
            due.is("101 bytes", x.read(1, 101), NONE);
            due.is("the hundred bytes are there", x.means(0, 100), 1);
            due.is("and then there is room", feedWord(x), 20);
        });
    }

    private static void read(Sentences all) {
        String title = "Promise 3: read";
        all.say(title, "The first n bytes of the tape (empty then) are a TEXT,", due -> {
            WordMachines x = new WordMachines();
            Due.feed(x, "ab)");
            due.is("two of three", x.read(0, 2), 4);
            due.is("empty behind a good text", x.read(0, 1), NONE);
            Due.feed(x, "ab)");
            due.is("three of three", x.read(0, 3), 0);
            due.is("empty behind a fault", x.read(0, 1), NONE);
            Due.feed(x, TOO_MANY);
            due.is("too many", x.read(0, TOO_MANY.length()), -2);
            due.is("empty behind too many", x.read(0, 1), NONE);
            due.is("fed anew", feedWord(x), 20);
            due.is("none of twenty", x.read(0, 0), 0);
            due.is("at the end, which is 0", x.fault(1), 0);
            due.is("empty behind none of twenty", x.read(0, 1), NONE);
            due.is("none of none", x.read(0, 0), 0);
            due.is("fed anew", feedWord(x), 20);
            due.is("all of twenty", x.read(0, 20), 22);
            due.is("all of a hundred", Due.read(x, 0, "a" + "?".repeat(99)), 3);
        });
        all.say(title, "whose EXPRESSION SLOT s has then (in place of one): how many STATES;", due -> {
            WordMachines x = Due.with("b", "c", "d");
            due.is("an empty slot", Due.read(x, 3, STATES_150), 150);
            due.is("in place of one", Due.read(x, 3, "1"), 2);
            due.is("states", x.look(3, 0), 2);
            due.is("spots", x.look(3, 3), 0);
            due.is("parts", x.look(3, 2), 1);
            due.is("no state 2", x.next(3, 2, 0), NONE);
            due.is("no part 1", x.spots(3, 0, 1), NONE);
            due.is("another slot keeps its own", x.words(2, 1), 1);
            due.is("in place again", Due.read(x, 3, STATES_150), 150);
            due.is("the last state", x.accepts(3, 149), 1);
            nothingIsLeft(due);
            eachSlotItsOwn(due);
        });
        all.say(title, "0: a FAULT (fault());", due -> {
            WordMachines x = new WordMachines();
            due.is("syntax", Due.read(x, 0, "a)"), 0);
            due.is("its number", x.fault(0), 1);
            due.is("many", Due.read(x, 0, "a".repeat(31)), 0);
            due.is("its number", x.fault(0), 2);
        });
        all.say(title, "-2: TOO MANY;", due -> {
            due.states(STATES_150, 150);
            due.states(Edges.STATES_151, -2);
            due.states(TOO_MANY, -2);
        });
        all.say(title, "NONE: no such s, or it has not so many (the tape stays).", due -> {
            WordMachines x = new WordMachines();
            feedWord(x);
            for (int s : Edges.NO_SLOTS) {
                due.is("read(" + s + ", 20)", x.read(s, 20), NONE);
            }
            for (int n : Edges.NO_COUNTS) {
                due.is("read(0, " + n + ")", x.read(0, n), NONE);
            }
            due.is("the slot stays empty", x.look(0, 0), NONE);
            due.is("the tape stays", x.read(0, 20), 22);
            x.shortest(0);
            due.is("with its bytes", Due.told(x), "abcd".repeat(5));
        });
        all.say(title, "By the first two the SLOT is as before.", due -> {
            WordMachines x = Due.with("", "ab|c");
            due.is("too many, into an empty slot", Due.read(x, 0, TOO_MANY), -2);
            due.is("it stays empty", x.look(0, 0), NONE);
            for (String text : new String[] {"ab)", "d,", "a".repeat(31), TOO_MANY}) {
                due.holds("read " + text, Due.read(x, 1, text) <= 0);
                due.is("states", x.look(1, 0), 5);
                due.is("spots", x.look(1, 3), 3);
                due.is("words", x.words(1, 1), 1);
                due.is("next", x.next(1, 1, 1), 4);
                due.is("class", x.classOf(1, 4), 3);
            }
        });
    }

    /** Many words and states before, and again and again few or none in place of them. */
    private static void nothingIsLeft(Due due) {
        WordMachines x = new WordMachines();
        for (int turn = 0; turn < 4; turn++) {
            due.is("all words", Due.read(x, 1, "!0,aaaa"), 6);
            due.is("so many", x.words(1, 4), 256);
            due.is("none", Due.read(x, 1, turn % 2 == 0 ? "a0" : "0"), turn % 2 == 0 ? 3 : 2);
            due.is("so many", x.words(1, 4), 0);
            due.is("classes", x.look(1, 1), 1);
            due.is("no word", x.look(1, 4), 1);
            due.is("no shortest", x.shortest(1), NONE);
        }
        due.is("none in 150 states", Due.read(x, 1, "{" + STATES_150 + "}&0"), 150);
        due.is("no word", x.look(1, 4), 1);
        due.is("no shortest", x.shortest(1), NONE);
    }

    private static void eachSlotItsOwn(Due due) {
        WordMachines x = new WordMachines();
        for (int turn = 0; turn < 3; turn++) {
            for (int s = 0; s < 4; s++) {
                due.is("too many", Due.read(x, s, TOO_MANY), -2);
                due.is("then not", Due.read(x, s, "b".repeat(4 * turn + s + 1)), 4 * turn + s + 3);
            }
            for (int s = 0; s < 4; s++) {
                due.is("shortest(" + s + ")", x.shortest(s), 4 * turn + s + 1);
            }
        }
    }

    private static void fault(Sentences all) {
        String title = "Promise 4: fault";
        all.say(title, "The FAULT of the latest read() that was not NONE:", due -> {
            WordMachines x = new WordMachines();
            due.is("before all reads", x.fault(0), 0);
            Due.read(x, 0, "aa)");
            due.is("no slot", x.read(4, 0), NONE);
            due.is("no bytes", x.read(0, 1), NONE);
            due.is("the number stays", x.fault(0), 1);
            due.is("the place stays", x.fault(1), 2);
            Due.read(x, 1, "a".repeat(31));
            due.is("a later fault", x.fault(0), 2);
            due.is("its place", x.fault(1), 30);
            due.is("a good text", Due.read(x, 0, "a"), 3);
            due.is("has none", x.fault(0), 0);
            due.is("at no place", x.fault(1), NONE);
            Due.read(x, 2, "");
            due.is("the empty text", x.fault(0), 1);
            Due.means(x, 0, "b)");
            due.is("means() is no read()", x.fault(0), 1);
            due.is("too many", Due.read(x, 0, TOO_MANY), -2);
            due.is("has none", x.fault(0), 0);
            due.is("at no place", x.fault(1), NONE);
        });
        all.say(title, "what 0 its number (0: none), 1 its place (NONE: none);", due -> {
            WordMachines x = new WordMachines();
            due.is("none yet", x.fault(0), 0);
            due.is("at no place", x.fault(1), NONE);
            due.fault(")", 1, 0);
            due.fault("1".repeat(99) + "|", 1, 100);
            due.fault("a,a,a,a,a,a,a", 2, 12);
        });
        all.say(title, "NONE for others.", due -> {
            WordMachines x = new WordMachines();
            for (int turn = 0; turn < 2; turn++) {
                for (int what : new int[] {Edges.MIN, -2, -1, 2, 3, 256, Edges.MAX}) {
                    due.is("fault(" + what + ")", x.fault(what), NONE);
                }
                Due.read(x, 0, "a)");
            }
        });
    }

    private static void isLook(Due due, String text, int... answers) {
        WordMachines x = Due.with("", "", "", text);
        for (int what = 0; what < answers.length; what++) {
            due.is("look(3, " + what + ") of " + text, x.look(3, what), answers[what]);
        }
    }

    private static void isMeant(Due due, WordMachines x, int s, String text, int none, int finite) {
        Due.read(x, s, text);
        due.is("look(" + s + ", 4) of " + text, x.look(s, 4), none);
        due.is("look(" + s + ", 5) of " + text, x.look(s, 5), finite);
    }

    private static void look(Sentences all) {
        String title = "Promise 5: look";
        all.say(title, "Of SLOT s, what 0 STATES, 1 CLASSES, 2 PARTS, 3 SPOTS in all,", due -> {
            isLook(due, "0", 2, 1, 1, 0);
            isLook(due, "!0", 2, 1, 1, 0);
            isLook(due, "(a|b)*abb", 6, 5, 1, 5);
            isLook(due, "a,b,c,d,0,1", 6, 3, 6, 4);
            isLook(due, STATES_150, 150, 150, 3, 37);
            String thirty = "a".repeat(30) + ",";
            isLook(due, thirty + thirty + thirty + "aaaaaaa", 32, 32, 4, 97);
        });
        all.say(title, "4 whether it means no WORD, 5 whether it means finitely many (1, 0).", due -> {
            String[] none = {"0", "a0", "a&b", "0+", "[^a-d]", "!.*", "a*0", "aa*&bb*", "{" + STATES_150 + "}&0"};
            String[] few = {"1", "0*", "b", "ad", "a*&b*", "!..+&!a", "a*0|b", "d?c?b?a", "(ab)*&(aba)*"};
            String[] many = {"a*", "!0", "!a", "[^a]*a", "[^d]*d", "ab+0?", "(aa)*&(aaa)*", "b*a", STATES_150};
            WordMachines x = new WordMachines();
            for (int i = 0; i < 9; i++) {
                isMeant(due, x, i % 4, none[i], 1, 1);
                isMeant(due, x, i % 4, many[i], 0, 0);
                isMeant(due, x, i % 4, few[i], 0, 1);
                isMeant(due, x, i % 4, many[i], 0, 0);
            }
        });
        all.say(title, "NONE for others, or without an EXPRESSION.", due -> {
            WordMachines x = Due.with("a");
            for (int what : new int[] {Edges.MIN, -1, 6, 7, 256, Edges.MAX}) {
                due.is("look(0, " + what + ")", x.look(0, what), NONE);
                due.is("look(1, " + what + ")", x.look(1, what), NONE);
            }
            for (int what = 0; what < 6; what++) {
                due.is("look(1, " + what + ")", x.look(1, what), NONE);
                for (int s : Edges.NO_SLOTS) {
                    due.is("look(" + s + ", " + what + ")", x.look(s, what), NONE);
                }
            }
        });
    }

    /** No state beyond the last one of 3 and of 150, none below 0, and none without an expression. */
    private static void noneSuch(Due due, String call, OfState state) {
        WordMachines x = Due.with("a", STATES_150);
        for (int k : Edges.NO_STATES) {
            due.is(call + " of slot 0, state " + k, state.ask(x, 0, k), NONE);
            due.is(call + " of slot 1, state " + k, state.ask(x, 1, k), NONE);
        }
        due.is(call + " of slot 0, state 3", state.ask(x, 0, 3), NONE);
        due.is(call + " of slot 2", state.ask(x, 2, 0), NONE);
        for (int s : Edges.NO_SLOTS) {
            due.is(call + " of slot " + s, state.ask(x, s, 0), NONE);
        }
        due.holds(call + " of the last of 3", state.ask(x, 0, 2) != NONE);
        due.holds(call + " of the last of 150", state.ask(x, 1, 149) != NONE);
    }

    private static void next(Sentences all) {
        String title = "Promise 6: next";
        all.say(title, "The STATE BEHIND STATE k and LETTER x (0 to 3);", due -> {
            WordMachines x = Due.with("a.*|d", STATES_150);
            int[][] rows = {{1, 2, 2, 3}, {4, 4, 4, 4}, {2, 2, 2, 2}, {2, 2, 2, 2}, {4, 4, 4, 4}};
            for (int k = 0; k < 5; k++) {
                for (int letter = 0; letter < 4; letter++) {
                    due.is("next(0, " + k + ", " + letter + ")", x.next(0, k, letter), rows[k][letter]);
                }
            }
            due.is("round the cycle", x.next(1, 149, 0), 1);
            due.is("out of it", x.next(1, 149, 3), 3);
        });
        all.say(title, "NONE: none such.", due -> {
            noneSuch(due, "next by a", (x, s, k) -> x.next(s, k, 0));
            noneSuch(due, "next by d", (x, s, k) -> x.next(s, k, 3));
            WordMachines x = Due.with("a", STATES_150);
            for (int letter : Edges.NO_LETTERS) {
                due.is("next(0, 0, " + letter + ")", x.next(0, 0, letter), NONE);
                due.is("next(0, 1, " + letter + ")", x.next(0, 1, letter), NONE);
                due.is("next(1, 149, " + letter + ")", x.next(1, 149, letter), NONE);
            }
        });
    }

    private static void accepts(Sentences all) {
        String title = "Promise 7: accepts";
        all.say(title, "Whether STATE k ACCEPTS: 1, 0;", due -> {
            WordMachines x = Due.with("a", "!a", STATES_150);
            for (int k = 0; k < 3; k++) {
                due.is("accepts(0, " + k + ")", x.accepts(0, k), k == 1 ? 1 : 0);
                due.is("accepts(1, " + k + ")", x.accepts(1, k), k == 1 ? 0 : 1);
            }
            due.is("accepts(2, 148)", x.accepts(2, 148), 0);
            due.is("accepts(2, 149)", x.accepts(2, 149), 1);
        });
        all.say(title, "NONE: none such.", due -> noneSuch(due, "accepts", WordMachines::accepts));
    }

    private static void spots(Sentences all) {
        String title = "Promise 8: spots";
        all.say(title, "SPOTS that PART p has in STATE k, as bits (the lowest the first);", due -> {
            WordMachines x = Due.with("a.[b-c]&!.*,0", "a?".repeat(30), "a".repeat(30), "0,0,0,0,0,a");
            int[][] rows = {{0, 0, 0}, {1, 1, 0}, {0, 1, 0}, {2, 1, 0}, {4, 1, 0}};
            for (int k = 0; k < 5; k++) {
                for (int p = 0; p < 3; p++) {
                    due.is("spots(0, " + k + ", " + p + ")", x.spots(0, k, p), rows[k][p]);
                }
            }
            due.is("all thirty", x.spots(1, 1, 0), (1 << 30) - 1);
            due.is("the thirtieth", x.spots(2, Due.behind(x, 2, "a".repeat(30)), 0), 1 << 29);
            due.is("part 5", x.spots(3, 1, 5), 1);
        });
        all.say(title, "NONE: none such.", due -> {
            noneSuch(due, "spots of part 0", (x, s, k) -> x.spots(s, k, 0));
            WordMachines x = Due.with("a", "a,b,c,d,a,b", STATES_150);
            for (int p : Edges.NO_PARTS) {
                due.is("spots(0, 1, " + p + ")", x.spots(0, 1, p), NONE);
                due.is("spots(1, 1, " + p + ")", x.spots(1, 1, p), NONE);
                due.is("spots(2, 149, " + p + ")", x.spots(2, 149, p), NONE);
            }
            due.is("spots(0, 0, 1)", x.spots(0, 0, 1), NONE);
            due.is("spots(0, 0, 5)", x.spots(0, 0, 5), NONE);
            due.is("spots(2, 0, 3)", x.spots(2, 0, 3), NONE);
            due.is("spots(1, 0, 5)", x.spots(1, 0, 5), 0);
        });
    }

    private static void classes(Sentences all) {
        String title = "Promise 9: classOf";
        all.say(title, "The CLASS of STATE k;", due -> {
            WordMachines x = Due.with("(a|b)*abb", STATES_150, "!0");
            int[] classes = {0, 1, 0, 2, 3, 4};
            for (int k = 0; k < 6; k++) {
                due.is("classOf(0, " + k + ")", x.classOf(0, k), classes[k]);
            }
            due.is("classOf(1, 0)", x.classOf(1, 0), 0);
            due.is("classOf(1, 149)", x.classOf(1, 149), 149);
            due.is("classOf(2, 1)", x.classOf(2, 1), 0);
        });
        all.say(title, "NONE: none such.", due -> noneSuch(due, "classOf", WordMachines::classOf));
    }
}
