/** Towers that the tests share, made by calls and by texts. */
final class Towers {
    static final int NONE = -1, BAD = -2, NO = -3, FULL = -4;
    static final int PLAIN = 0, EARLY = 1, LATE = 2, DROPPED = 3, LEFT = 4, ECHO = 5;
    static final int OLD = 0, LEARNER = 1, PROUD = 2, STRANGER = 3, LEFT_HAND = 4, LENT = 5;
    static final int LOWEST = Integer.MIN_VALUE, HIGHEST = Integer.MAX_VALUE;

    /** Five bells, all different: the changes 3 2 3 2 3 2. */
    static final int[] TRUE_ROWS = {
        12345, 21345, 23154, 32154, 31245, 13245, 12354, 21354, 23145, 32145, 31254, 13254};
    /** Six bells, all different: the changes 1 2 1 2 1 2. */
    static final int[] HUNT_ROWS = {
        123456, 214365, 241635, 426153, 462513, 645231, 654321, 563412, 536142, 351624, 315264, 132546};

    private Towers() {
    }

    /** The answer of the last byte typed. */
    static int typeAll(HandedSlips x, String text) {
        int answer = 0;
        for (char c : text.toCharArray()) {
            answer = x.type(c);
        }
        return answer;
    }

    static int readText(HandedSlips x, String text) {
        x.clear();
        typeAll(x, text);
        return x.read();
    }

    /** A new one, told by a text. */
    static HandedSlips told(String text) {
        HandedSlips x = new HandedSlips();
        readText(x, text);
        return x;
    }

    /** The six changes, told as a number, the first the highest figure. */
    static void compose(HandedSlips x, int changes) {
        int rest = changes;
        for (int k = 5; k >= 0; k--) {
            x.method(k, rest % 10);
            rest /= 10;
        }
    }

    static HandedSlips bells(int n, int changes) {
        HandedSlips x = new HandedSlips();
        x.tower(n);
        compose(x, changes);
        return x;
    }

    /** 12345 of five bells, and so on. */
    static int rounds(int n) {
        return n == 4 ? 1234 : n == 5 ? 12345 : 123456;
    }

    /** The digest of these values. */
    static long mixed(long... values) {
        long h = 1549;
        for (long v : values) {
            h = 31 * h + v;
        }
        return h;
    }

    /** Nothing in it is as at first: six bells, the text "ab", the fraction 3 by 10, an image 1, a call refused. */
    static HandedSlips filled() {
        HandedSlips x = bells(6, 323232);
        x.slips(1, ECHO, 1);
        x.hands(1, LEFT_HAND);
        x.slips(2, PLAIN, 3);
        x.year(3);
        x.heard(1, 214365);
        x.note(1, 1, 3);
        x.mark(2, 7, 8, 1);
        typeAll(x, "ab");
        x.odds(10);
        x.odds(3);
        x.image(1);
        x.slips(7, 0, 1);
        return x;
    }

    /** All but images, the text, the fraction and status is as at first, with n bells. */
    static void asAtFirst(Checks c, String where, HandedSlips x, int n) {
        c.due(where + ": bells", x.count(0), n);
        for (int what = 1; what <= 8; what++) {
            c.due(where + ": count " + what, x.count(what), 0);
        }
        for (int k = 0; k < 12; k++) {
            c.due(where + ": meant " + k, x.row(k, 0), rounds(n));
            c.due(where + ": rung " + k, x.row(k, 1), rounds(n));
        }
        for (int r = 0; r < n; r++) {
            c.due(where + ": slip of " + r, x.of(r, 0), NONE);
            c.due(where + ": row of " + r, x.of(r, 1), NONE);
            c.due(where + ": ringer of " + r, x.of(r, 2), OLD);
            c.due(where + ": years of " + r, x.of(r, 3), 0);
            c.due(where + ": made by " + r, x.of(r, 4), 0);
        }
        c.due(where + ": of none there", x.of(n, 0), BAD);
        for (int k = 0; k < 6; k++) {
            c.due(where + ": change " + k, x.method(k, 0), 0);
        }
    }
}
