import java.util.ArrayDeque;
import java.util.Deque;

/** The first fault of a text, found with a stack of open signs instead of the grammar's rules. */
final class FaultOracle {
    int number = 0;
    int place = -1;
    private final String text;
    private final Deque<Character> open = new ArrayDeque<>();
    private int parts = 0;
    private int spots = 0;

    private enum Mode { WANT_SIDE, WANT_ATOM, IN_ROW, BEHIND_BRACE }

    FaultOracle(String text) {
        this.text = text;
        Mode mode = Mode.WANT_SIDE;
        int at = 0;
        while (at < text.length() && number == 0) {
            char sign = text.charAt(at);
            int to = at + 1;
            if (mode == Mode.WANT_SIDE && (sign == '!' || sign == '{')) {
                if (opened('!') + opened('{') == 10) {
                    fail(2, at);
                }
                open.push(sign);
            } else if (mode != Mode.BEHIND_BRACE && "abcd.[(01".indexOf(sign) >= 0) {
                if (mode == Mode.WANT_SIDE) {
                    parts++;
                    spots = 0;
                    if (parts == 7) {
                        fail(2, at);
                    }
                }
                mode = sign == '(' ? Mode.WANT_ATOM : Mode.IN_ROW;
                if (sign == '(') {
                    if (opened('(') == 10) {
                        fail(2, at);
                    }
                    open.push(sign);
                } else if (sign != '0' && sign != '1') {
                    spots++;
                    if (spots == 31) {
                        fail(2, at);
                    }
                    to = sign == '[' ? behindBracket(at) : to;
                }
            } else if (mode == Mode.IN_ROW && "*+?".indexOf(sign) >= 0) {
                mode = Mode.IN_ROW;
            } else if (mode == Mode.IN_ROW && sign == '|') {
                mode = Mode.WANT_ATOM;
            } else if (mode == Mode.IN_ROW && sign == ')' && isTop('(')) {
                open.pop();
            } else if ((mode == Mode.IN_ROW || mode == Mode.BEHIND_BRACE) && !isTop('(')
                    && (sign == ',' || sign == '&')) {
                endNots();
                mode = Mode.WANT_SIDE;
            } else if ((mode == Mode.IN_ROW || mode == Mode.BEHIND_BRACE) && !isTop('(')
                    && sign == '}' && opened('{') > 0) {
                endNots();
                open.pop();
                endNots();
                mode = Mode.BEHIND_BRACE;
            } else {
                fail(1, at);
            }
            at = to;
        }
        boolean ended = mode == Mode.IN_ROW || mode == Mode.BEHIND_BRACE;
        if (!ended || opened('(') > 0 || opened('{') > 0) {
            fail(1, text.length());
        }
    }

    private void fail(int kind, int at) {
        if (number == 0) {
            number = kind;
            place = at;
        }
    }

    private int opened(char sign) {
        int count = 0;
        for (char other : open) {
            count += other == sign ? 1 : 0;
        }
        return count;
    }

    private boolean isTop(char sign) {
        return !open.isEmpty() && open.peek() == sign;
    }

    private void endNots() {
        while (isTop('!')) {
            open.pop();
        }
    }

    /** Goes through [..] by what may stand behind each sign. */
    private int behindBracket(int from) {
        String before = "[";
        for (int at = from + 1; at < text.length(); at++) {
            char sign = text.charAt(at);
            boolean isLetter = sign >= 'a' && sign <= 'd';
            if (before.equals("[") && sign == '^') {
                before = "^";
            } else if (isLetter && before.startsWith("-")) {
                if (sign < before.charAt(1)) {
                    fail(1, at);
                }
                before = "range";
            } else if (isLetter) {
                before = "letter" + sign;
            } else if (sign == '-' && before.startsWith("letter")) {
                before = "-" + before.charAt(6);
            } else if (sign == ']' && (before.startsWith("letter") || before.equals("range"))) {
                return at + 1;
            } else {
                fail(1, at);
            }
            if (number != 0) {
                return at;
            }
        }
        fail(1, text.length());
        return text.length();
    }
}
