/** Counts the answers that are not the ones due, and feeds texts to the tape. */
final class Due {
    private int wrong = 0;
    private int asked = 0;
    private String label = "";

    /** What the answers that follow are about; it is told with each wrong one. */
    void under(String heading) {
        label = heading.isEmpty() ? "" : heading + ": ";
    }

    void is(String call, long got, long want) {
        asked++;
        if (got != want) {
            wrong++;
            System.out.println(label + call + " answered " + got + ", due is " + want);
        }
    }

    void is(String call, String got, String want) {
        asked++;
        if (!got.equals(want)) {
            wrong++;
            System.out.println(label + call + " answered \"" + got + "\", due is \"" + want + "\"");
        }
    }

    void holds(String what, boolean held) {
        is(what, held ? 1 : 0, 1);
    }

    /** Each text is read without a fault. */
    void good(String... texts) {
        for (String text : texts) {
            WordMachines x = new WordMachines();
            holds("read " + text, read(x, 0, text) > 0);
            is("fault(0) of " + text, x.fault(0), 0);
            is("fault(1) of " + text, x.fault(1), WordMachines.NONE);
        }
    }

    void fault(String text, int number, int place) {
        WordMachines x = new WordMachines();
        is("read " + text, read(x, 0, text), 0);
        is("fault(0) of " + text, x.fault(0), number);
        is("fault(1) of " + text, x.fault(1), place);
    }

    /** So many states, or what else read() answers: then a new object's slot stays empty. */
    void states(String text, int states) {
        WordMachines x = new WordMachines();
        is("read " + text, read(x, 0, text), states);
        is("look(0, 0) of " + text, x.look(0, 0), states > 0 ? states : WordMachines.NONE);
    }

    /** How many words of 0, 1, 2 .. letters a text means. */
    void counts(String text, long... counts) {
        WordMachines x = with(text);
        for (int n = 0; n < counts.length; n++) {
            is("words(0, " + n + ") of " + text, x.words(0, n), counts[n]);
        }
    }

    void meant(String text, String... words) {
        for (String word : words) {
            is("means \"" + word + "\" of " + text, means(with(text), 0, word), 1);
        }
    }

    void notMeant(String text, String... words) {
        for (String word : words) {
            is("means \"" + word + "\" of " + text, means(with(text), 0, word), 0);
        }
    }

    void end(String name) {
        System.out.println(name + ": " + asked + " answers, " + wrong + " not as due");
        if (wrong != 0) {
            System.exit(1);
        }
    }

    /** A new object with these texts in slots 0, 1 .. */
    static WordMachines with(String... texts) {
        WordMachines x = new WordMachines();
        for (int s = 0; s < texts.length; s++) {
            read(x, s, texts[s]);
        }
        return x;
    }

    /** Feeds a text with blanks behind it; the tape must be empty. */
    static void feed(WordMachines x, String text) {
        for (int from = 0; from < text.length(); from += 20) {
            int[] row = new int[5];
            for (int i = 0; i < 20; i++) {
                int sign = from + i < text.length() ? text.charAt(from + i) : ' ';
                row[i / 4] = row[i / 4] << 8 | sign;
            }
            x.feed(row[0], row[1], row[2], row[3], row[4]);
        }
    }

    static int read(WordMachines x, int s, String text) {
        feed(x, text);
        return x.read(s, text.length());
    }

    static int means(WordMachines x, int s, String word) {
        feed(x, word);
        return x.means(s, word.length());
    }

    /** The state behind a word, letter by letter. */
    static int behind(WordMachines x, int s, String word) {
        int state = 0;
        for (int i = 0; i < word.length(); i++) {
            state = x.next(s, state, word.charAt(i) - 'a');
        }
        return state;
    }

    /** The word told last, in letters; no word has more than 300. */
    static String told(WordMachines x) {
        StringBuilder word = new StringBuilder();
        int letter = x.letter(0);
        for (int i = 1; letter != WordMachines.NONE && i <= 301; i++) {
            word.append((char) ('a' + letter));
            letter = x.letter(i);
        }
        return word.toString();
    }
}
