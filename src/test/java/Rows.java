/** Laws by which a barrel shoots balls with rows that are easy to compare by hand. */
final class Rows {
    /** Hair i is 2 i: no two hairs are nearer than 2. */
    static final String STAIRS = "take at*2;";

    /*
     * ONE beside OTHER, margin 0: slid by 1 the hairs 0, 4, 8 run, slid by 2 the hairs 16, 17, 18, under any other slide
     * none. BEST is 1 with a LONGEST of 1; OTHER beside ONE has 31 and 30, so there BEST is 30 with a LONGEST of 3.
     */
    static final String ONE = marked(0, 0, 10, 4, 11, 8, 12, 16, 20, 17, 21, 18, 22);
    static final String OTHER = marked(63, 1, 10, 5, 11, 9, 12, 18, 20, 19, 21, 20, 22);

    private Rows() {
    }

    static String flat(int height) {
        return "take " + height + ";";
    }

    /** Stairs beside which STAIRS run if slid by s. */
    static String stairsTurned(int s) {
        return "take at*2-" + 2 * s + " when at>" + s + "-1; take at*2+64-" + 2 * s + ";";
    }

    /** All hairs have one height but those that are told: a hair and its height, and so on. */
    static String marked(int rest, int... hairsAndHeights) {
        StringBuilder laws = new StringBuilder();
        for (int n = 0; n < hairsAndHeights.length; n += 2) {
            laws.append("take ").append(hairsAndHeights[n + 1]).append(" when at=").append(hairsAndHeights[n]).append(';');
        }
        return laws.append("take ").append(rest).append(';').toString();
    }
}
