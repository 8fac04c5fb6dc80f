/** The terms: the faults of a text, and where they are. */
final class FaultSentences {
    private static final String TERMS = "Terms";
    private static final String THIRTY = "a.[b]".repeat(10);

    static void say(Sentences all) {
        all.say(TERMS, "FAULTS, the first from the left:", FaultSentences::firstFault);
        all.say(TERMS, "1 SYNTAX, at the byte that can't stand there (the end: the TEXT's length);", due -> {
            singleBytes(due);
            atTheEnd(due);
        });
        all.say(TERMS, "of - a second LETTER ahead of the first: at that one.", due -> {
            due.good("[a-a]", "[a-b]", "[d-d]", "[^a-d]");
            due.fault("[b-a]", 1, 3);
            due.fault("[d-a]", 1, 3);
            due.fault("[^d-c]", 1, 4);
            due.fault("[a-bd-c]", 1, 6);
            due.fault("ab[c-b", 1, 5);
        });
        many(all);
    }

    private static void firstFault(Due due) {
        due.fault("*)", 1, 0);
        due.fault("a)*", 1, 1);
        due.fault("[b-a-", 1, 3);
        due.fault("a".repeat(31) + ")", 2, 30);
        due.fault("a".repeat(29) + ")aa", 1, 29);
        due.fault("a".repeat(30) + ")a", 1, 30);
        due.fault(THIRTY + "[*", 2, 50);
        due.fault("a,b,c,d,a,b,c)", 2, 12);
        due.fault("a,b,c,d,a,b,[e", 2, 12);
        due.fault("a,b,c,d,a,b,)c", 1, 12);
        due.fault("a,b,c,d,a,b,(((((((((((", 2, 12);
        due.fault("a,b,c,d,a,b," + "a".repeat(31), 2, 12);
        due.fault("a,b,c,d,a,b,!!!!!!!!!!!c", 2, 22);
        due.fault("((((((((((()", 2, 10);
        due.fault("(((((((((()(", 1, 10);
        due.fault("!!!!!!!!!!!*", 2, 10);
        due.fault("!!!!!!!!!!*!", 1, 10);
        due.fault("{{{{{{{{{{a{", 1, 11);
    }

    private static void singleBytes(Due due) {
        for (char sign = 0; sign < 256; sign++) {
            String text = String.valueOf(sign);
            if ("abcd.01".indexOf(sign) >= 0) {
                due.good(text);
            } else {
                due.fault(text, 1, "[({!".indexOf(sign) >= 0 ? 1 : 0);
            }
            if ("abcd.01[(*+?|,&".indexOf(sign) < 0) {
                due.fault("a" + sign + "a", 1, 1);
            }
        }
    }

    private static void atTheEnd(Due due) {
        String[] cut = {"", "(", "(a", "(a|", "[", "[^", "[a", "[a-", "[a-b", "!", "{", "{a", "{a,", "a,", "a&", "a|"};
        for (String text : cut) {
            due.fault(text, 1, text.length());
        }
        due.fault("a" + "?".repeat(98) + "|", 1, 100);
        due.fault("1".repeat(99) + ",", 1, 100);
        due.fault("1".repeat(99) + ")", 1, 99);
    }

    private static void many(Sentences all) {
        all.say(TERMS, "2 MANY: a 31st SPOT of a PART,", due -> {
            due.good(THIRTY, THIRTY + "01(1)*", "a".repeat(30) + "," + "a".repeat(30));
            due.fault(THIRTY + "a", 2, 50);
            due.fault(THIRTY + ".", 2, 50);
            due.fault(THIRTY + "[a]", 2, 50);
            due.fault(THIRTY + "(1|0b)", 2, 54);
            due.fault(THIRTY + "*|c", 2, 52);
            due.fault("c," + THIRTY + "a", 2, 52);
        });
        all.say(TERMS, "a 7th PART (at its first byte),", due -> {
            due.good("a,b,c,d,a,b", "a&b&c&d&a&b", "{a},{b},!{c&d},!a,b");
            due.fault("a,b&c,d&!{a},b,c,a", 2, 15);
            due.fault("a,b,c,d,a,b,(c)", 2, 12);
            due.fault("a,b,c,d,a,b&[c]", 2, 12);
            due.fault("a,b,c,d,a,b,0", 2, 12);
            due.fault("a,b,c,d,a,b,!{c}", 2, 14);
        });
        all.say(TERMS, "an 11th ( [open],", due -> {
            due.good("((((((((((a))))))))))", "((((((((((a))))))))))((((((((((b))))))))))");
            due.good("((((((((((a)))))))))(b))", "((((((((((a)))))))))),((((((((((b))))))))))", "(a)".repeat(11));
            due.fault("(((((((((((a)))))))))))", 2, 10);
            due.fault("(a)(b)(((((((((((a", 2, 16);
            due.fault("((((((((((a)(b)((c", 2, 16);
        });
        all.say(TERMS, "an 11th { or ! (open; a ! is till its SIDE ends), there.", due -> {
            due.good("!!!!!!!!!!a", "{{{{{{{{{{a}}}}}}}}}}", "!{!{!{!{!{a}}}}}", "!!!!!!!!!!a&!!!!!!!!!!b");
            due.good("{{{{{{{{{!a&!b,!c}}}}}}}}}", "!{!a}&!{!b}&!{{{{{{{{{c}}}}}}}}}");
            due.good("{{{{{{{{{{a}}}}}}}}}}&{{{{{{{{{{b}}}}}}}}}}", "!!!!!!!!!!((((((((((a))))))))))");
            due.fault("!!!!!!!!!!!a", 2, 10);
            due.fault("{{{{{{{{{{{a", 2, 10);
            due.fault("!{!{!{!{!{!a", 2, 10);
            due.fault("{!{!{!{!{!{a", 2, 10);
            due.fault("!a&{{{{{{{{{{!b", 2, 13);
            due.fault("{{{{{{{{{a&!!b", 2, 12);
            due.fault("!{a}&!{{{{{{{{{{b", 2, 15);
            due.fault("!{{{{{{{{{a}&!!b", 2, 14);
        });
    }
}
