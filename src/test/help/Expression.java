import java.util.ArrayList;
import java.util.List;
import java.util.Random;
import java.util.function.Predicate;

/**
 * A random expression. What its parts mean is asked by where each piece can end in a word, and
 * where they stand by a net with empty edges, so that nothing is shared with the program.
 */
final class Expression {
    final List<Part> parts = new ArrayList<>();
    final String text;
    private final Join join;

    Expression(Random random, int maxParts, int size) {
        int[] left = {1 + random.nextInt(maxParts)};
        join = top(random, left, 3, size);
        text = join.text;
    }

    /** By the meaning of each piece; for words of at most 60 letters. */
    boolean means(String word) {
        return join.holds(part -> part.takes(word));
    }

    /** By the nets: where the parts stand, in their order; -1 is the beginning. */
    boolean acceptsIn(List<Integer> state) {
        return join.holds(part -> part.takesIn(state.get(parts.indexOf(part))));
    }

    private static final class Join {
        String text;
        char kind;
        List<Join> sides = new ArrayList<>();
        Part part;

        boolean holds(Predicate<Part> takes) {
            switch (kind) {
                case 'p':
                    return takes.test(part);
                case '!':
                    return !sides.get(0).holds(takes);
                case '{':
                    return sides.get(0).holds(takes);
                case '&':
                    return sides.stream().allMatch(side -> side.holds(takes));
                default:
                    return sides.stream().anyMatch(side -> side.holds(takes));
            }
        }
    }

    private Join top(Random random, int[] left, int depth, int size) {
        return joined(random, left, depth, size, ',');
    }

    private Join joined(Random random, int[] left, int depth, int size, char kind) {
        Join join = new Join();
        join.kind = kind;
        do {
            Join side = kind == ',' ? joined(random, left, depth, size, '&') : side(random, left, depth, size);
            join.text = join.text == null ? side.text : join.text + kind + side.text;
            join.sides.add(side);
        } while (left[0] > 0 && random.nextInt(3) > 0);
        return join;
    }

    private Join side(Random random, int[] left, int depth, int size) {
        Join join = new Join();
        int choice = depth == 0 ? 2 : random.nextInt(5);
        if (choice == 0) {
            join.kind = '!';
            join.sides.add(side(random, left, depth - 1, size));
            join.text = "!" + join.sides.get(0).text;
        } else if (choice == 1) {
            join.kind = '{';
            join.sides.add(top(random, left, depth - 1, size));
            join.text = "{" + join.sides.get(0).text + "}";
        } else {
            left[0]--;
            join.kind = 'p';
            join.part = new Part(random, size);
            join.text = join.part.text;
            parts.add(join.part);
        }
        return join;
    }

    /** Where a piece that begins at any of the places can end in a word; places are bits. */
    interface Ends {
        long in(String word, long places);
    }

    /** A piece of a part: its text and what it means. */
    private static final class Piece {
        final String text;
        final Ends ends;

        Piece(String text, Ends ends) {
            this.text = text;
            this.ends = ends;
        }

        static Piece ofLetters(String text, int set) {
            return new Piece(text, (word, places) -> {
                long result = 0;
                for (int i = 0; i < word.length(); i++) {
                    if ((places >> i & 1) != 0 && (set >> word.charAt(i) - 'a' & 1) != 0) {
                        result |= 2L << i;
                    }
                }
                return result;
            });
        }

        Piece then(Piece other) {
            return new Piece(text + other.text, (word, places) -> other.ends.in(word, ends.in(word, places)));
        }

        Piece or(Piece other) {
            return new Piece(text + "|" + other.text, (word, places) -> ends.in(word, places) | other.ends.in(word, places));
        }

        Piece repeated(char sign) {
            return new Piece(text + sign, (word, places) -> {
                long all = ends.in(word, places);
                long fewer = 0;
                while (fewer != all && sign != '?') {
                    fewer = all;
                    all |= ends.in(word, all);
                }
                return sign == '+' ? all : all | places;
            });
        }
    }

    /** A part: its text, its meaning, and its net. */
    static final class Part {
        final String text;
        private final Ends ends;
        private final List<int[]> empties = new ArrayList<>();
        /** From, to, set of letters: one for each spot, in their order. */
        final List<int[]> spots = new ArrayList<>();
        private int nodes = 2;

        Part(Random random, int size) {
            Piece made = random.nextInt(4) == 0 ? broad(random) : part(random, size, 2, 0, 1);
            text = made.text;
            ends = made.ends;
        }

        boolean takes(String word) {
            return (ends.in(word, 1) >> word.length() & 1) != 0;
        }

        private int node() {
            return nodes++;
        }

        private Piece part(Random random, int size, int depth, int from, int to) {
            Piece all = row(random, size, depth, from, to);
            while (random.nextInt(4) == 0) {
                all = all.or(row(random, size, depth, from, to));
            }
            return all;
        }

        /** .* and some spots that read much: it stands in many sets of its spots. */
        private Piece broad(Random random) {
            int at = node();
            empties.add(new int[] {0, at});
            spots.add(new int[] {at, at, 15});
            Piece all = Piece.ofLetters(".", 15).repeated('*');
            for (int count = 3 + random.nextInt(6); count > 0; count--) {
                int after = node();
                int set = random.nextBoolean() ? 15 : 1 << random.nextInt(4);
                spots.add(new int[] {at, after, set});
                String sign = set == 15 ? "." : String.valueOf((char) ('a' + Integer.numberOfTrailingZeros(set)));
                all = all.then(Piece.ofLetters(sign, set));
                at = after;
            }
            empties.add(new int[] {at, 1});
            return all;
        }

        private Piece row(Random random, int size, int depth, int from, int to) {
            int at = node();
            empties.add(new int[] {from, at});
            int after = node();
            Piece all = item(random, size, depth, at, after);
            for (int count = random.nextInt(size); count > 0; count--) {
                at = after;
                after = node();
                all = all.then(item(random, size, depth, at, after));
            }
            empties.add(new int[] {after, to});
            return all;
        }

        private Piece item(Random random, int size, int depth, int from, int to) {
            int begin = node();
            int end = node();
            Piece all = atom(random, size, depth, begin, end);
            while (random.nextInt(3) == 0) {
                char sign = "*+?".charAt(random.nextInt(3));
                int outerBegin = node();
                int outerEnd = node();
                empties.add(new int[] {outerBegin, begin});
                empties.add(new int[] {end, outerEnd});
                if (sign != '?') {
                    empties.add(new int[] {end, begin});
                }
                if (sign != '+') {
                    empties.add(new int[] {outerBegin, outerEnd});
                }
                begin = outerBegin;
                end = outerEnd;
                all = all.repeated(sign);
            }
            empties.add(new int[] {from, begin});
            empties.add(new int[] {end, to});
            return all;
        }

        private Piece atom(Random random, int size, int depth, int from, int to) {
            int choice = random.nextInt(12);
            if (choice <= 2 && depth > 0) {
                Piece inner = part(random, Math.max(1, size - 1), depth - 1, from, to);
                return new Piece("(" + inner.text + ")", inner.ends);
            }
            if (choice == 3 && random.nextInt(3) == 0) {
                return new Piece("0", (word, places) -> 0);
            }
            if (choice == 4 && random.nextInt(2) == 0) {
                empties.add(new int[] {from, to});
                return new Piece("1", (word, places) -> places);
            }
            if (choice == 5) {
                spots.add(new int[] {from, to, 15});
                return Piece.ofLetters(".", 15);
            }
            if (choice == 6 || choice == 7) {
                return bracket(random, from, to);
            }
            int letter = random.nextInt(random.nextBoolean() ? 2 : 4);
            spots.add(new int[] {from, to, 1 << letter});
            return Piece.ofLetters(String.valueOf((char) ('a' + letter)), 1 << letter);
        }

        private Piece bracket(Random random, int from, int to) {
            boolean without = random.nextInt(3) == 0;
            StringBuilder inside = new StringBuilder();
            int set = 0;
            do {
                int low = random.nextInt(4);
                int high = random.nextBoolean() ? low : low + random.nextInt(4 - low);
                inside.append((char) ('a' + low));
                if (high > low || random.nextInt(5) == 0) {
                    inside.append('-').append((char) ('a' + high));
                }
                for (int x = low; x <= high; x++) {
                    set |= 1 << x;
                }
            } while (random.nextInt(3) == 0);
            set = without ? 15 & ~set : set;
            spots.add(new int[] {from, to, set});
            return Piece.ofLetters((without ? "[^" : "[") + inside + "]", set);
        }

        private boolean[] reachedIn(int state) {
            boolean[] reached = new boolean[nodes];
            reached[0] = state == -1;
            for (int i = 0; i < spots.size(); i++) {
                if (state != -1 && (state >> i & 1) != 0) {
                    reached[spots.get(i)[1]] = true;
                }
            }
            boolean more = true;
            while (more) {
                more = false;
                for (int[] edge : empties) {
                    if (reached[edge[0]] && !reached[edge[1]]) {
                        reached[edge[1]] = true;
                        more = true;
                    }
                }
            }
            return reached;
        }

        boolean takesIn(int state) {
            return reachedIn(state)[1];
        }

        /** The spots in which the part stands behind a letter. */
        int behind(int state, int letter) {
            boolean[] reached = reachedIn(state);
            int result = 0;
            for (int i = 0; i < spots.size(); i++) {
                int[] spot = spots.get(i);
                if (reached[spot[0]] && (spot[2] >> letter & 1) != 0) {
                    result |= 1 << i;
                }
            }
            return result;
        }
    }
}
