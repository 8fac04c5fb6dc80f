import java.util.ArrayList;
import java.util.HashMap;
import java.util.List;
import java.util.Map;

/** The states of an expression, found by plain means; short words are asked of the expression itself. */
final class Oracle {
    final Expression expression;
    final List<List<Integer>> states = new ArrayList<>();
    final List<String> leading = new ArrayList<>();
    final List<int[]> steps = new ArrayList<>();
    final List<Boolean> accepting = new ArrayList<>();
    boolean tooMany = false;

    Oracle(Expression expression) {
        this.expression = expression;
        Map<List<Integer>, Integer> numbers = new HashMap<>();
        List<Integer> begin = new ArrayList<>();
        expression.parts.forEach(part -> begin.add(-1));
        add(begin, "", numbers);
        for (int k = 0; k < states.size() && !tooMany; k++) {
            int[] row = new int[4];
            for (int x = 0; x < 4; x++) {
                List<Integer> behind = new ArrayList<>();
                for (int p = 0; p < expression.parts.size(); p++) {
                    behind.add(expression.parts.get(p).behind(states.get(k).get(p), x));
                }
                if (!numbers.containsKey(behind)) {
                    add(behind, leading.get(k) + (char) ('a' + x), numbers);
                }
                row[x] = numbers.get(behind);
            }
            steps.add(row);
            tooMany = states.size() > 150;
        }
    }

    private void add(List<Integer> state, String word, Map<List<Integer>, Integer> numbers) {
        numbers.put(state, states.size());
        states.add(state);
        leading.add(word);
        accepting.add(expression.acceptsIn(state));
    }

    /** Whether two states differ, for each pair, by the table of those that do. */
    boolean[][] differing() {
        int n = states.size();
        boolean[][] differ = new boolean[n][n];
        boolean more = true;
        while (more) {
            more = false;
            for (int i = 0; i < n; i++) {
                for (int j = 0; j < n; j++) {
                    if (!differ[i][j] && differsHere(differ, i, j)) {
                        differ[i][j] = true;
                        more = true;
                    }
                }
            }
        }
        return differ;
    }

    private boolean differsHere(boolean[][] differ, int i, int j) {
        if (accepting.get(i) != accepting.get(j).booleanValue()) {
            return true;
        }
        for (int x = 0; x < 4; x++) {
            if (differ[steps.get(i)[x]][steps.get(j)[x]]) {
                return true;
            }
        }
        return false;
    }

    /** Classes, numbered by going through the least machine from that of state 0. */
    int[] classes() {
        boolean[][] differ = differing();
        int[] result = new int[states.size()];
        java.util.Arrays.fill(result, -1);
        List<Integer> queue = new ArrayList<>();
        queue.add(0);
        number(result, differ, 0, 0);
        for (int c = 0; c < queue.size(); c++) {
            for (int x = 0; x < 4; x++) {
                int target = steps.get(queue.get(c))[x];
                if (result[target] == -1) {
                    number(result, differ, target, queue.size());
                    queue.add(target);
                }
            }
        }
        return result;
    }

    private void number(int[] result, boolean[][] differ, int state, int number) {
        for (int k = 0; k < result.length; k++) {
            if (!differ[state][k]) {
                result[k] = number;
            }
        }
    }

    /** Infinite if a state on a cycle can come to one that accepts. */
    boolean isFinite() {
        int n = states.size();
        boolean[][] reach = new boolean[n][n];
        for (int i = 0; i < n; i++) {
            for (int x = 0; x < 4; x++) {
                reach[i][steps.get(i)[x]] = true;
            }
        }
        for (int m = 0; m < n; m++) {
            for (int i = 0; i < n; i++) {
                for (int j = 0; reach[i][m] && j < n; j++) {
                    reach[i][j] |= reach[m][j];
                }
            }
        }
        for (int i = 0; i < n; i++) {
            for (int j = 0; j < n; j++) {
                if (reach[i][i] && accepting.get(j) && (i == j || reach[i][j])) {
                    return false;
                }
            }
        }
        return true;
    }

    /** Words through pairs of states, in their order: the first that differs, and who has more. */
    static String compare(Oracle s, Oracle t, int[] more) {
        Map<Long, String> seen = new HashMap<>();
        List<int[]> queue = new ArrayList<>();
        List<String> words = new ArrayList<>();
        queue.add(new int[] {0, 0});
        words.add("");
        seen.put(0L, "");
        String first = null;
        for (int i = 0; i < queue.size(); i++) {
            int p = queue.get(i)[0];
            int q = queue.get(i)[1];
            boolean left = s.accepting.get(p);
            boolean right = t.accepting.get(q);
            if (left != right) {
                first = first == null ? words.get(i) : first;
                more[0] |= left ? 1 : 2;
            }
            for (int x = 0; x < 4; x++) {
                int a = s.steps.get(p)[x];
                int b = t.steps.get(q)[x];
                if (seen.putIfAbsent(a * 1000L + b, "") == null) {
                    queue.add(new int[] {a, b});
                    words.add(words.get(i) + (char) ('a' + x));
                }
            }
        }
        return first;
    }

    /** All words of n letters that are meant, in order, each asked of the expression. */
    List<String> wordsOf(int n) {
        List<String> result = new ArrayList<>();
        for (int code = 0; code < 1 << 2 * n; code++) {
            StringBuilder word = new StringBuilder();
            for (int i = n - 1; i >= 0; i--) {
                word.append((char) ('a' + (code >> 2 * i & 3)));
            }
            if (expression.means(word.toString())) {
                result.add(word.toString());
            }
        }
        return result;
    }

    /** How many words of the same length are meant that are ahead of this one. */
    long placeOf(String word) {
        long place = 0;
        int state = 0;
        for (int i = 0; i < word.length(); i++) {
            int letter = word.charAt(i) - 'a';
            for (int x = 0; x < letter; x++) {
                place += count(steps.get(state)[x], word.length() - 1 - i);
            }
            state = steps.get(state)[letter];
        }
        return place;
    }

    /** The shortest word that is meant, the first of like ones; null if there is none. */
    String shortest() {
        int k = accepting.indexOf(true);
        return k < 0 ? null : leading.get(k);
    }

    /** How many words of n letters lead from a state to one that accepts, by all paths at once. */
    long count(int from, int n) {
        long[] at = new long[states.size()];
        at[from] = 1;
        for (int i = 0; i < n; i++) {
            long[] after = new long[at.length];
            for (int k = 0; k < at.length; k++) {
                for (int target : steps.get(k)) {
                    after[target] += at[k];
                }
            }
            at = after;
        }
        long sum = 0;
        for (int k = 0; k < at.length; k++) {
            sum += accepting.get(k) ? at[k] : 0;
        }
        return sum;
    }
}
