/** Counts the answers that are not the ones due, and feeds texts to the tape. */
final class Due {
    private int wrong = 0;
    private int asked = 0;

    void is(String call, long got, long want) {
        asked++;
        if (got != want) {
            wrong++;
            System.out.println(call + " answered " + got + ", due is " + want);
        }
    }

    void holds(String what, boolean held) {
        is(what, held ? 1 : 0, 1);
    }

    void end(String name) {
        System.out.println(name + ": " + asked + " answers, " + wrong + " not as due");
        if (wrong != 0) {
            System.exit(1);
        }
    }

    /** Feeds a text with blanks behind it; the tape must be empty. */
    static void feed(WordMachines x, String text) {
        for (int from = 0; from < text.length(); from += 20) {
            int[] row = new int[5];
            for (int i = 0; i < 20; i++) {
                int sign = from + i < text.length() ? text.charAt(from + i) : ' ';
                row[i / 4] = row[i / 4] << 8 | sign;
            }
            x.feed(row[0], row[1], row[2], row[3], row[4]);
        }
    }

    static int read(WordMachines x, int s, String text) {
        feed(x, text);
        return x.read(s, text.length());
    }

    static int means(WordMachines x, int s, String word) {
        feed(x, word);
        return x.means(s, word.length());
    }

    /** The word told last, in letters. */
    static String told(WordMachines x) {
        StringBuilder word = new StringBuilder();
        for (int i = 0; x.letter(i) != WordMachines.NONE; i++) {
            word.append((char) ('a' + x.letter(i)));
        }
        return word.toString();
    }
}
