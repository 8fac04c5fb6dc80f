/** Inputs that lie on the document's boundaries, or just beyond them. */
final class Edges {
    static final int MIN = Integer.MIN_VALUE;
    static final int MAX = Integer.MAX_VALUE;
    static final int[] NO_SLOTS = {MIN, -1, 4, 5, MAX};
    static final int[] NO_LENGTHS = {MIN, -1, 29, 30, 150, MAX};
    static final int[] NO_LETTERS = {MIN, -1, 4, 5, MAX};
    static final int[] NO_PARTS = {MIN, -1, 6, 7, MAX};
    /** With 20 bytes on the tape. */
    static final int[] NO_COUNTS = {MIN, -1, 21, 100, 101, MAX};
    /** Times 4 1 << 30 wraps around to 0, and times 6 715827883 does to 2. */
    static final int[] NO_STATES = {MIN, -1, 150, 151, 715827883, 1 << 30, MAX};
    /** The beginning, a cycle of 29 times 5, three for bbb, and one without spots. */
    static final String STATES_150 = "(" + "a".repeat(29) + ")*,(aaaaa)*,bbb";
    static final String STATES_151 = STATES_150 + "b";
    static final String TOO_MANY = ".*a.......";

    private Edges() {
    }
}
