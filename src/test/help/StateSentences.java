import java.util.function.ToLongFunction;

/** The terms: states and classes, and what holds for all calls. */
final class StateSentences {
    private static final String TERMS = "Terms";
    private static final int NONE = WordMachines.NONE;
    private static final int TAPED = 20;

    static void say(Sentences all) {
        all.say("What it is", "An object is used for at most 512 calls after it has been made;", StateSentences::lastCalls);
        behind(all);
        states(all);
        classes(all);
        all.say(TERMS, "All memory is the builder's own.", StateSentences::ownMemory);
        String refused = "A call that is refused (NONE, -2, false) changes nothing but the tape, where it is told.";
        all.say(TERMS, refused, due -> {
            refusedWithNone(due);
            refusedOthers(due);
        });
        all.say(TERMS, "The constants: NONE = -1: There is none.", due -> due.is("NONE", WordMachines.NONE, -1));
    }

    private static void lastCalls(Due due) {
        WordMachines x = new WordMachines();
        for (int round = 0; round < 102; round++) {
            String text = round % 2 == 0 ? "ab*" : "!.";
            Due.feed(x, text);
            due.is("read", x.read(round % 4, text.length()), round % 2 == 0 ? 4 : 3);
            due.is("words", x.words(round % 4, 2), round % 2 == 0 ? 1 : 16);
            due.holds("word", x.word(round % 4, 2, 0));
            due.is("letter", x.letter(1), round % 2 == 0 ? 1 : 0);
        }
        due.is("call 511", x.feed(0x61616161, 0x61616161, 0x61616161, 0x61616161, 0x61616161), 20);
        due.is("call 512", x.read(0, 20), 22);
    }

    private static void behind(Sentences all) {
        String reading = "BEHIND a WORD a PART has a set of SPOTS: those at which a reading of the WORD, by the PART,"
            + " can stand (the SPOT that read its last LETTER, so that the rest of the PART, whatever it is,"
            + " could follow);";
        all.say(TERMS, reading, due -> {
            WordMachines x = Due.with("a*a?a", "a+b?a*", "(ab|a.)c", "a" + "b?".repeat(29));
            due.is("behind a", x.spots(0, Due.behind(x, 0, "a"), 0), 7);
            due.is("behind b", x.spots(0, Due.behind(x, 0, "b"), 0), 0);
            due.is("behind aa", x.spots(1, Due.behind(x, 1, "aa"), 0), 5);
            due.is("behind ab", x.spots(1, Due.behind(x, 1, "ab"), 0), 2);
            due.is("by both", x.spots(2, Due.behind(x, 2, "ab"), 0), 2 | 8);
            due.is("by the second", x.spots(2, Due.behind(x, 2, "ac"), 0), 8);
            due.is("behind acc", x.spots(2, Due.behind(x, 2, "acc"), 0), 16);
            due.is("29 at once", x.spots(3, Due.behind(x, 3, "ab"), 0), (1 << 30) - 2);
        });
        all.say(TERMS, "BEHIND the empty WORD it has none of them, and is at its BEGINNING.", due -> {
            WordMachines x = Due.with("0", "1", ".*,a*", "(a|b|c|d)+");
            for (int s = 0; s < 4; s++) {
                due.is("no spots in state 0 of slot " + s, x.spots(s, 0, 0), 0);
                for (int k = 0; k < x.look(s, 0); k++) {
                    for (int letter = 0; letter < 4; letter++) {
                        due.holds("no way back to state 0 of slot " + s, x.next(s, k, letter) > 0);
                    }
                }
            }
            due.is("states of 0", x.look(0, 0), 2);
            due.is("state 1 of 0 has no spots, too", x.spots(0, 1, 0), 0);
            due.is("1 takes the empty word", x.accepts(1, 0), 1);
            due.is("but not behind a letter", x.accepts(1, 1), 0);
            due.is("no spots in state 0 by the second part", x.spots(2, 0, 1), 0);
        });
        String stands = "(A SPOT behind which nothing can follow to the end of the PART, as in a0, stands, too.)";
        all.say(TERMS, stands, due -> {
            WordMachines x = Due.with("a0", "(a0)*b", "a[^a-d]b", "0a|b");
            due.is("states of a0", x.look(0, 0), 3);
            due.is("a stands in a0", x.spots(0, 1, 0), 1);
            due.is("and takes nothing", x.accepts(0, 1), 0);
            due.is("a stands in (a0)*b", x.spots(1, Due.behind(x, 1, "a"), 0), 1);
            due.is("no b behind it", x.spots(1, Due.behind(x, 1, "ab"), 0), 0);
            due.is("a stands before an empty set", x.spots(2, Due.behind(x, 2, "a"), 0), 1);
            due.is("nothing reads through that", x.spots(2, Due.behind(x, 2, "ab"), 0), 0);
            due.is("behind 0 nothing stands", x.spots(3, Due.behind(x, 3, "a"), 0), 0);
            due.is("b is the second spot", x.spots(3, Due.behind(x, 3, "b"), 0), 2);
        });
        all.say(TERMS, "It TAKES the WORD if the reading can end there.", due -> {
            WordMachines x = Due.with("ab?c?", "a?", "a+0?", "(a|1)b*");
            due.is("not at the beginning", x.accepts(0, 0), 0);
            due.is("where only what may be left out follows", x.accepts(0, Due.behind(x, 0, "a")), 1);
            due.is("at the end", x.accepts(0, Due.behind(x, 0, "abc")), 1);
            due.is("not behind it", x.accepts(0, Due.behind(x, 0, "abcc")), 0);
            due.is("at the beginning of a?", x.accepts(1, 0), 1);
            due.is("before 0?", x.accepts(2, Due.behind(x, 2, "aa")), 1);
            due.is("at the beginning through 1 and b*", x.accepts(3, 0), 1);
        });
    }

    private static void states(Sentences all) {
        all.say(TERMS, "A STATE is what all PARTS have BEHIND a WORD.", due -> {
            due.states("a*", 3);
            due.states("a*,b*&0", 4);
            due.states("1&{aa,!bb}", 6);
            due.states("0,0,0,0,0,0", 2);
            due.states("a,b,c,d,0,1", 6);
        });
        String numbered = "STATES are numbered from 0, BEHIND the empty WORD: STATE by STATE, by LETTERS a b c d,"
            + " each new one gets the next number;";
        all.say(TERMS, numbered, due -> {
            isSteps(due, "ab|b", new int[][] {{1, 2, 3, 3}, {3, 4, 3, 3}, {3, 3, 3, 3}, {3, 3, 3, 3}, {3, 3, 3, 3}});
            isSteps(due, "d|c|b|a", new int[][] {{1, 2, 3, 4}, {5, 5, 5, 5}, {5, 5, 5, 5}, {5, 5, 5, 5}, {5, 5, 5, 5}});
            isSteps(due, "(dd)*", new int[][] {{1, 1, 1, 2}, {1, 1, 1, 1}, {1, 1, 1, 3}, {1, 1, 1, 2}});
            isSteps(due, "1", new int[][] {{1, 1, 1, 1}, {1, 1, 1, 1}});
        });
        all.say(TERMS, "more than 150: TOO MANY.", due -> {
            due.states(Edges.STATES_150, 150);
            due.states(Edges.STATES_151, -2);
            due.states(".*a.....", 65);
            due.states(".*a......", 129);
            due.states(Edges.TOO_MANY, -2);
            due.states(".*a" + ".".repeat(28), -2);
        });
        String accepts = "A STATE ACCEPTS if its PARTS TAKE such WORDS that the EXPRESSION does, by , & !.";
        all.say(TERMS, accepts, due -> {
            due.meant("a,b,c,d,aa,bb", "a", "b", "c", "d", "aa", "bb");
            due.notMeant("a,b,c,d,aa,bb", "", "ab", "aaa");
            due.meant(".*a.*&.*b.*&!.*c.*", "ab", "dbad");
            due.notMeant(".*a.*&.*b.*&!.*c.*", "", "a", "b", "abc");
            due.meant("!{a,b}&{.,!c}", "c", "d", "", "ab");
            due.notMeant("!{a,b}&{.,!c}", "a", "b");
            due.meant("!{!{a,b}&c}", "a", "b", "d", "");
            due.notMeant("!{!{a,b}&c}", "c");
        });
    }

    private static void isSteps(Due due, String text, int[][] rows) {
        WordMachines x = Due.with(text);
        for (int k = 0; k < rows.length; k++) {
            for (int letter = 0; letter < 4; letter++) {
                due.is("next(0, " + k + ", " + letter + ") of " + text, x.next(0, k, letter), rows[k][letter]);
            }
        }
    }

    private static void isClasses(Due due, String text, int... classes) {
        WordMachines x = Due.with(text);
        for (int k = 0; k < classes.length; k++) {
            due.is("classOf(0, " + k + ") of " + text, x.classOf(0, k), classes[k]);
        }
        due.is("classOf(0, " + classes.length + ") of " + text, x.classOf(0, classes.length), NONE);
    }

    private static void classes(Sentences all) {
        all.say(TERMS, "LEAST: STATES that ACCEPT alike whatever follows are one;", due -> {
            isClasses(due, "!0", 0, 0);
            isClasses(due, "0", 0, 0);
            isClasses(due, "a0", 0, 0, 0);
            isClasses(due, "a*", 0, 0, 1);
            isClasses(due, "a*&!1", 0, 1, 2);
            WordMachines x = Due.with("aa|ba|ca", "(" + "a".repeat(29) + ")*&(aaaaa)*", "a".repeat(30));
            due.is("classes of aa|ba|ca", x.look(0, 1), 4);
            due.is("a and c are alike", x.classOf(0, 3), x.classOf(0, 1));
            due.is("unlike only 144 letters on", x.look(1, 1), 146);
            due.is("unlike only 29 letters on", x.look(2, 1), 32);
        });
        all.say(TERMS, "CLASSES of these are numbered like STATES, from that of STATE 0.", due -> {
            isClasses(due, "(a|b)*abb", 0, 1, 0, 2, 3, 4);
            isClasses(due, "b", 0, 1, 2);
            isClasses(due, "!b", 0, 1, 2);
            isClasses(due, "d|cd", 0, 1, 2, 3, 3);
            isClasses(due, "ab|bb|c", 0, 1, 1, 2, 3, 2, 2);
        });
    }

    private static void ownMemory(Due due) {
        WordMachines x = new WordMachines();
        WordMachines y = new WordMachines();
        Due.feed(x, "ab");
        due.is("the other's tape is empty", y.read(0, 1), NONE);
        Due.feed(y, "c)");
        due.is("read", x.read(0, 2), 4);
        due.is("the other's slot has nothing", y.look(0, 0), NONE);
        due.is("read the other's", y.read(0, 2), 0);
        due.is("no fault here", x.fault(0), 0);
        due.is("a fault there", y.fault(1), 1);
        due.is("read the other's", Due.read(y, 0, "dcc"), 5);
        x.shortest(0);
        y.shortest(0);
        due.is("told here", Due.told(x), "ab");
        due.is("told there", Due.told(y), "dcc");
        due.is("states here", x.look(0, 0), 4);
        due.is("a new object's slot", new WordMachines().look(0, 0), NONE);
        due.is("a new object's word", new WordMachines().letter(0), NONE);
    }

    /** Slots 0, 1, 3 with expressions, 2 without, the word ab told, a fault, and a tape of 20 bytes. */
    private static WordMachines filled(boolean faulty) {
        WordMachines x = new WordMachines();
        Due.read(x, 0, "ab|c");
        Due.read(x, 1, "a0");
        Due.read(x, 3, "(abcd)*");
        if (faulty) {
            Due.read(x, 2, "a)");
        }
        x.word(0, 2, 0);
        Due.feed(x, "abcd".repeat(TAPED / 4));
        return x;
    }

    private static String answersOf(WordMachines x) {
        StringBuilder all = new StringBuilder("fault " + x.fault(0) + " " + x.fault(1) + " told " + Due.told(x));
        for (int s = 0; s < 4; s++) {
            all.append(" slot ").append(s);
            for (int what = 0; what < 6; what++) {
                all.append(' ').append(x.look(s, what));
            }
            for (int k = 0; k < 6; k++) {
                all.append(' ').append(x.next(s, k, 0)).append(x.next(s, k, 1)).append(x.next(s, k, 3));
                all.append(' ').append(x.accepts(s, k)).append(x.classOf(s, k)).append(x.spots(s, k, 0));
            }
            all.append(' ').append(x.words(s, 2)).append(' ').append(x.compare(s, 3));
        }
        return all.toString();
    }

    /** The tape can only be seen by using it up, so it is the last to be asked. */
    private static String tapeOf(WordMachines x, int taped) {
        int more = x.feed(0x61626364, 0x61626364, 0x61626364, 0x61626364, 0x61626364);
        return "tape " + (more - 20) + " all abcd: " + x.means(3, taped + 20);
    }

    private static void isRefused(Due due, String call, ToLongFunction<WordMachines> refused) {
        WordMachines x = filled(true);
        due.is(call, refused.applyAsLong(x), NONE);
        due.is("what all answer behind " + call, answersOf(x), answersOf(filled(true)));
        due.is("the tape behind " + call, tapeOf(x, TAPED), "tape 20 all abcd: 1");
    }

    private static void refusedWithNone(Due due) {
        isRefused(due, "read(-1, 4)", x -> x.read(-1, 4));
        isRefused(due, "read(4, 4)", x -> x.read(4, 4));
        isRefused(due, "read(0, 21)", x -> x.read(0, 21));
        isRefused(due, "read(2, -1)", x -> x.read(2, -1));
        isRefused(due, "fault(2)", x -> x.fault(2));
        isRefused(due, "look(0, 6)", x -> x.look(0, 6));
        isRefused(due, "look(2, 0)", x -> x.look(2, 0));
        isRefused(due, "next(0, 5, 0)", x -> x.next(0, 5, 0));
        isRefused(due, "next(0, 0, 4)", x -> x.next(0, 0, 4));
        isRefused(due, "accepts(0, 5)", x -> x.accepts(0, 5));
        isRefused(due, "spots(0, 0, 1)", x -> x.spots(0, 0, 1));
        isRefused(due, "classOf(0, 5)", x -> x.classOf(0, 5));
        isRefused(due, "means(2, 4)", x -> x.means(2, 4));
        isRefused(due, "means(3, 21)", x -> x.means(3, 21));
        isRefused(due, "means(3, -1)", x -> x.means(3, -1));
        isRefused(due, "words(0, 29)", x -> x.words(0, 29));
        isRefused(due, "words(2, 1)", x -> x.words(2, 1));
        isRefused(due, "shortest(1)", x -> x.shortest(1));
        isRefused(due, "shortest(2)", x -> x.shortest(2));
        isRefused(due, "compare(0, 2)", x -> x.compare(0, 2));
        isRefused(due, "differ(0, 0)", x -> x.differ(0, 0));
        isRefused(due, "differ(2, 0)", x -> x.differ(2, 0));
        isRefused(due, "letter(2)", x -> x.letter(2));
        isRefused(due, "letter(-1)", x -> x.letter(-1));
        isRefused(due, "word(0, 2, 1)", x -> x.word(0, 2, 1) ? 1 : NONE);
        isRefused(due, "word(0, 29, 0)", x -> x.word(0, 29, 0) ? 1 : NONE);
        isRefused(due, "word(1, 1, 0)", x -> x.word(1, 1, 0) ? 1 : NONE);
        isRefused(due, "word(2, 0, 0)", x -> x.word(2, 0, 0) ? 1 : NONE);
    }

    private static void refusedOthers(Due due) {
        WordMachines full = filled(true);
        for (int i = 0; i < 4; i++) {
            full.feed(0x61626364, 0x61626364, 0x61626364, 0x61626364, 0x61626364);
        }
        due.is("feed", full.feed(0, 0, 0, 0, 0), NONE);
        due.is("what all answer behind feed", answersOf(full), answersOf(filled(true)));
        due.is("the full tape behind feed", full.means(3, 100), 1);
        for (int s = 0; s < 4; s++) {
            WordMachines x = filled(false);
            x.means(3, TAPED);
            due.is("too many", Due.read(x, s, Edges.TOO_MANY), -2);
            due.is("what all answer behind -2", answersOf(x), answersOf(filled(false)));
            due.is("the tape behind -2", tapeOf(x, 0), "tape 0 all abcd: 1");
        }
    }
}
