/** Stores whose pairs and scenes are told apart by what their balls lack. */
final class Stores {
    private Stores() {
    }

    /** Lookers of margin 0, and for each of these hours a pair of kin, ball 0 and ball k + 1, that lacks k + 1 hairs. */
    static Trial kinPairs(int lookers, int... hours) {
        Trial t = Trial.gun();
        t.barrel(0);
        for (int l = 0; l < lookers; l++) {
            t.looker(0);
        }
        t.shot(0, 0);
        for (int k = 0; k < hours.length; k++) {
            t.lack(t.shot(1, 0), k + 1);
            t.pair(0, k + 1, hours[k]);
        }
        return t;
    }

    /** A looker who is wrong in these pairs of kin, and can't say of the others. */
    static void errs(Trial t, int looker, int... pairs) {
        StringBuilder text = new StringBuilder();
        for (int k : pairs) {
            text.append(text.length() == 0 ? "same " : " or ").append("lack=").append(k + 1);
        }
        t.judgement(looker, text.append(";").toString());
    }

    /** A looker of margin 0, and so many balls of which ball k lacks k hairs and is of scene k. */
    static Trial scenes(int count) {
        Trial t = new Trial();
        t.looker(0);
        for (int k = 0; k < count; k++) {
            t.foundLacking(k);
            t.scene(k, k, true);
        }
        return t;
    }

    /** Looker 0 says same of these balls alone: one ball, another one, and so on. Two balls a < b have a LONGEST 32 - b. */
    static void joins(Trial t, int... balls) {
        StringBuilder text = new StringBuilder();
        for (int n = 0; n < balls.length; n += 2) {
            text.append(n == 0 ? "same " : " or ").append("lack=").append(balls[n] + balls[n + 1]);
            text.append(" and longest=").append(32 - Math.max(balls[n], balls[n + 1]));
        }
        t.judgement(0, text.append(";").toString());
    }
}
