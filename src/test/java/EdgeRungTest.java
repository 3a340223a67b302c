/** Promises 13 to 19: each sentence that names a boundary case, with a check of its own. */
public final class EdgeRungTest {
    private static final int NONE = Towers.NONE;
    private static final int PLAIN = Towers.PLAIN, EARLY = Towers.EARLY, LATE = Towers.LATE;
    private static final int DROPPED = Towers.DROPPED, LEFT = Towers.LEFT, ECHO = Towers.ECHO;
    private static final int LEARNER = Towers.LEARNER;
    private static final int LOWEST = Towers.LOWEST, HIGHEST = Towers.HIGHEST;

    private static final Checks c = new Checks();

    public static void main(String[] args) {
        rows();
        rowNumbers();
        changes();
        slipPlaces();
        slipMoves();
        repeats();
        clash();
        mend();
        mendWhich();
        compose();
        composeLeast();
        when();
        whenYearsEnd();
        clean();
        c.covers(13, 19);
        c.end();
    }

    // ---- 13

    private static void rows() {
        c.sentence(13, "ROWS 0 .. 11 of a peal");
        HandedSlips x = Towers.filled();
        for (int k : new int[] {-1, 12, LOWEST, HIGHEST}) {
            c.bad(x, "row " + k + " meant", () -> x.row(k, 0));
            c.bad(x, "row " + k + " rung", () -> x.row(k, 1));
        }
        HandedSlips hunt = Towers.bells(6, 121212);
        for (int k = 0; k < 12; k++) {
            c.due("row " + k, hunt.row(k, 0), Towers.HUNT_ROWS[k]);
        }
        c.sentence(13, "MEANT (0), RUNG (1). BAD.");
        for (int what : new int[] {-1, 2, LOWEST, HIGHEST}) {
            c.bad(x, "row 0 " + what, () -> x.row(0, what));
        }
        c.bad(x, "both not as told, counted once", () -> x.row(12, 2));
        c.sentence(13, "ROW 0 is 1, 2, .. n in order");
        for (int n = 4; n <= 6; n++) {
            HandedSlips y = Towers.bells(n, 111111);
            y.slips(0, LATE, 1);
            c.due("meant of " + n, y.row(0, 0), Towers.rounds(n));
            c.due("rung of " + n, y.row(0, 1), Towers.rounds(n));
        }
    }

    private static void rowNumbers() {
        c.sentence(13, "A ROW is told as a number (its first place's bell the highest figure).");
        c.due("four figures", Towers.bells(4, 300000).row(1, 1), 2134);
        c.due("six figures, bell 6 the highest", Towers.bells(6, 121212).row(6, 1), 654321);
        c.sentence(13, "each with a ROPE (ROPE 0 is bell 1's, ..)");
        HandedSlips x = Towers.bells(6, 0);
        x.slips(0, PLAIN, 1);
        x.slips(5, EARLY, 2);
        c.due("the first rope's", x.row(1, 1), 213456);
        c.due("the last rope's", x.row(2, 1), 123645);
    }

    /** 12345 or 21345 in each row, as the bits tell, from row 0 on. */
    private static void swappedIn(HandedSlips x, String bits) {
        for (int k = 0; k < 12; k++) {
            c.due("row " + k, x.row(k, 0), bits.charAt(k) == '1' ? 21345 : 12345);
        }
    }

    private static void changes() {
        c.sentence(13, "behind ROW k comes CHANGE k (by 6 left over)");
        swappedIn(Towers.bells(5, 300000), "011111100000");
        swappedIn(Towers.bells(5, 30), "000001111110");
        swappedIn(Towers.bells(5, 3), "000000111111");
        c.sentence(13, "0: no bells change places");
        swappedIn(Towers.bells(5, 0), "000000000000");
        c.sentence(13, "1: those in places 1 and 2, 3 and 4, 5 and 6 do (as far as there are both)");
        c.due("of four", Towers.bells(4, 100000).row(1, 0), 2143);
        c.due("of five", Towers.bells(5, 100000).row(1, 0), 21435);
        c.due("of six", Towers.bells(6, 100000).row(1, 0), 214365);
        c.sentence(13, "2: those in 2 and 3, 4 and 5");
        c.due("of four", Towers.bells(4, 200000).row(1, 0), 1324);
        c.due("of five", Towers.bells(5, 200000).row(1, 0), 13254);
        c.due("of six", Towers.bells(6, 200000).row(1, 0), 132546);
        c.sentence(13, "3: those in 1 and 2 alone");
        c.due("of four", Towers.bells(4, 300000).row(1, 0), 2134);
        c.due("of six", Towers.bells(6, 300000).row(1, 0), 213456);
    }

    /** To which place a slip takes the bell of place p of so many. */
    private static int placed(int bells, int kind, int p) {
        HandedSlips x = Towers.bells(bells, 0);
        x.slips(p - 1, kind, 7);
        return String.valueOf(x.row(7, 1)).indexOf('0' + p) + 1;
    }

    private static void slipPlaces() {
        for (int n = 4; n <= 6; n++) {
            c.sentence(13, "0 PLAIN: p and 1, n at most.");
            c.due("the first of " + n, placed(n, PLAIN, 1), 2);
            c.due("the last but one of " + n, placed(n, PLAIN, n - 1), n);
            c.due("the last of " + n, placed(n, PLAIN, n), n);
            c.sentence(13, "1 EARLY (under PLAIN): 2 less than PLAIN, 1 at least.");
            c.due("the first of " + n, placed(n, EARLY, 1), 1);
            c.due("the second of " + n, placed(n, EARLY, 2), 1);
            c.due("the third of " + n, placed(n, EARLY, 3), 2);
            c.due("the last of " + n, placed(n, EARLY, n), n - 2);
            c.sentence(13, "2 LATE (under PLAIN): 1 more than PLAIN, n at most.");
            c.due("the last but three of " + n, placed(n, LATE, n - 3), n - 1);
            c.due("the last but two of " + n, placed(n, LATE, n - 2), n);
            c.due("the last but one of " + n, placed(n, LATE, n - 1), n);
            c.due("the last of " + n, placed(n, LATE, n), n);
            c.sentence(13, "3 DROPPED (under LATE): n, if LATE tells n, else p.");
            c.due("the last but three of " + n, placed(n, DROPPED, n - 3), n - 3);
            c.due("the last but two of " + n, placed(n, DROPPED, n - 2), n);
            c.due("the last of " + n, placed(n, DROPPED, n), n);
            c.sentence(13, "4 LEFT (under EARLY): n and 1, less EARLY.");
            c.due("the first of " + n, placed(n, LEFT, 1), n);
            c.due("the second of " + n, placed(n, LEFT, 2), n);
            c.due("the third of " + n, placed(n, LEFT, 3), n - 1);
            c.due("the last of " + n, placed(n, LEFT, n), 3);
            c.sentence(13, "5 ECHO (under PLAIN): PLAIN of PLAIN.");
            c.due("the first of " + n, placed(n, ECHO, 1), 3);
            c.due("the last but two of " + n, placed(n, ECHO, n - 2), n);
            c.due("the last but one of " + n, placed(n, ECHO, n - 1), n);
            c.due("the last of " + n, placed(n, ECHO, n), n);
        }
    }

    private static int rungOfSix(int rope, int kind) {
        HandedSlips x = Towers.bells(6, 0);
        x.slips(rope, kind, 11);
        return x.row(11, 1);
    }

    private static void slipMoves() {
        c.sentence(13, "the bell goes from the place p where it is then to the place told, those between move by one.");
        c.due("the first to the last", rungOfSix(0, LEFT), 234561);
        c.due("the first to the third", rungOfSix(0, LATE), 231456);
        c.due("the last to the third", rungOfSix(5, LEFT), 126345);
        c.due("the last to the fourth", rungOfSix(5, EARLY), 123645);
        c.due("the last stays", rungOfSix(5, ECHO), 123456);
        c.due("the first stays", rungOfSix(0, EARLY), 123456);
        c.sentence(13, "(ROWS behind are not changed by it.)");
        HandedSlips x = Towers.bells(5, 323232);
        x.slips(0, LEFT, 1);
        x.slips(4, LEFT, 10);
        for (int k = 0; k < 12; k++) {
            int rung = k == 1 ? 23451 : k == 10 ? 31524 : Towers.TRUE_ROWS[k];
            c.due("rung " + k, x.row(k, 1), rung);
            c.due("meant " + k, x.row(k, 0), Towers.TRUE_ROWS[k]);
        }
        c.sentence(13, "then in it, by ROPES, each SLIP of that ROW that is made");
        HandedSlips y = new HandedSlips();
        y.slips(1, PLAIN, 3);
        y.slips(0, PLAIN, 3);
        c.due("21345, then back: bell 2 from where it is then", y.row(3, 1), 12345);
        y.hands(0, LEARNER);
        c.due("one of two made", y.row(3, 1), 13245);
        y.hands(1, LEARNER);
        c.due("none of two made", y.row(3, 1), 12345);
        HandedSlips z = Towers.bells(6, 0);
        for (int r = 5; r >= 0; r--) {
            z.slips(r, LEFT, 1);
        }
        // 234561, 345612, 456123, 561234, 612345, 123456: bell r is the first each time
        c.due("all six in one row", z.row(1, 1), 123456);
    }

    // ---- 14 and 15

    private static void repeats() {
        c.sentence(14, "the first ROW (1 .. 11) that is RUNG like an earlier one, with which; none.");
        c.due("row 1", new HandedSlips().repeats(0), 1);
        c.due("row 1 is like row 0", new HandedSlips().repeats(1), 0);
        HandedSlips x = Towers.bells(5, 323232);
        x.slips(2, EARLY, 11);
        // 13254 comes to 31254
        c.due("row 11", x.repeats(0), 11);
        c.due("row 11 is like row 10", x.repeats(1), 10);
        x.slips(1, PLAIN, 1);
        c.due("the first of two", x.repeats(0), 1);
        c.due("the first of two is like row 0", x.repeats(1), 0);
        HandedSlips y = Towers.bells(4, 121213);
        y.slips(3, PLAIN, 11);
        // 1243 comes to 1234
        c.due("row 11 again", y.repeats(0), 11);
        c.due("row 11 is like row 0", y.repeats(1), 0);
        c.sentence(14, "FALSE: the ROW (0), the earlier one (1). NONE. BAD.");
        HandedSlips z = Towers.bells(5, 323232);
        c.answers(z, "none", NONE, () -> z.repeats(0));
        c.answers(z, "none earlier", NONE, () -> z.repeats(1));
        for (int what : new int[] {-1, 2, LOWEST, HIGHEST}) {
            c.bad(z, "repeats " + what, () -> z.repeats(what));
            c.bad(x, "repeats " + what, () -> x.repeats(what));
        }
    }

    private static void clash() {
        c.sentence(15, "the first such ROW (0, if none is made)");
        HandedSlips x = Towers.bells(6, 0);
        c.answers(x, "none put: how many", 0, () -> x.clash(0));
        c.answers(x, "none put: the row", 0, () -> x.clash(1));
        x.slips(5, DROPPED, 11);
        c.due("in the last row, though it moves none", x.clash(1), 11);
        x.hands(5, LEARNER);
        c.due("none made: how many", x.clash(0), 0);
        c.due("none made: the row", x.clash(1), 0);
        x.slips(0, PLAIN, 11);
        x.slips(1, PLAIN, 1);
        c.due("of like ones the first", x.clash(1), 1);
        x.slips(2, PLAIN, 11);
        c.due("two over one", x.clash(1), 11);
        c.due("two over one: how many", x.clash(0), 2);
        x.slips(3, PLAIN, 1);
        c.due("two and two", x.clash(1), 1);
        c.sentence(15, "the most SLIPS made in one ROW");
        HandedSlips y = Towers.bells(6, 0);
        for (int r = 0; r < 6; r++) {
            y.slips(r, EARLY, 5);
        }
        c.due("all six", y.clash(0), 6);
        c.due("their row", y.clash(1), 5);
        c.sentence(15, "CLASH: how many (0), the ROW (1). BAD.");
        for (int what : new int[] {-1, 2, LOWEST, HIGHEST}) {
            c.bad(y, "clash " + what, () -> y.clash(what));
        }
    }

    // ---- 16

    /** Five slips, each of which brings a row to one of 0, 2, 4, where none is: all must be left out. */
    private static HandedSlips fiveToLeave() {
        HandedSlips x = Towers.bells(5, 323232);
        x.slips(0, PLAIN, 5);
        x.slips(1, PLAIN, 1);
        x.slips(2, PLAIN, 3);
        x.slips(3, PLAIN, 8);
        x.slips(4, PLAIN, 6);
        return x;
    }

    private static void mend() {
        c.sentence(16, "0: it is); none.");
        HandedSlips x = new HandedSlips();
        c.answers(x, "rounds, no slips", NONE, x::mend);
        HandedSlips y = Towers.bells(5, 323232);
        c.answers(y, "it is true, no slips", 0, y::mend);
        y.slips(4, EARLY, 9);
        c.answers(y, "it is true with a slip", 0, y::mend);
        HandedSlips z = Towers.bells(5, 121212);
        z.slips(4, EARLY, 10);
        c.answers(z, "a slip that can not mend it", NONE, z::mend);
        z.slips(0, PLAIN, 11);
        c.answers(z, "slips that make it true", 0, z::mend);
        c.sentence(16, "the fewest ROPES whose SLIPS (of those made now), not made, make it TRUE (bits;");
        HandedSlips all = fiveToLeave();
        c.due("all five", all.mend(), 31);
        all.hands(0, LEARNER);
        all.hands(4, LEARNER);
        c.due("of those made now", all.mend(), 14);
    }

    private static void mendWhich() {
        c.sentence(16, "of like ones the least;");
        HandedSlips x = Towers.bells(5, 323232);
        x.slips(1, PLAIN, 11);
        x.slips(4, EARLY, 5);
        // row 11 comes to 13524, row 5 too: either may be left out
        c.due("2 or 16", x.mend(), 2);
        c.sentence(16, "MEND: the fewest ROPES");
        HandedSlips v = Towers.bells(5, 121213);
        v.slips(0, PLAIN, 11);
        v.slips(1, EARLY, 11);
        v.slips(2, PLAIN, 11);
        // 12354 comes to 21534, as row 10 is; without the first two, bits 3, to 12534, without the third to 21354
        c.due("one, 4, ahead of two, 3", v.mend(), 4);
    }

    // ---- 17

    /** Four bells whose row 1 is 1234, if change 0 is 1: 2143, 1243, 1234. */
    private static HandedSlips notByOne() {
        HandedSlips x = Towers.bells(4, 0);
        x.slips(1, PLAIN, 1);
        x.slips(3, PLAIN, 1);
        return x;
    }

    private static void compose() {
        c.sentence(17, "that, with SLIPS made as now, is TRUE and least as a number; none.");
        HandedSlips x = Towers.bells(4, 0);
        x.slips(1, PLAIN, 1);
        x.slips(2, LATE, 1);
        x.slips(3, LATE, 1);
        // 2143, 1324 and 2134 all come to 1234
        c.answers(x, "no method", NONE, x::compose);
        x.hands(3, LEARNER);
        c.holds("a method, the third not made", x.compose() != NONE);
        c.sentence(17, "(6 CHANGES 1 .. 3, as a number, the first the highest figure)");
        HandedSlips y = Towers.bells(6, 0);
        c.answers(y, "six figures of six bells", 121212, y::compose);
        HandedSlips two = notByOne();
        c.answers(two, "the first figure", 2, () -> two.compose() / 100000);
        // 0 0 0 0 0 0 is not TRUE, 0 1 2 1 2 3 would be, and less, but for the 0
        HandedSlips z = Towers.bells(5, 0);
        z.slips(0, LATE, 1);
        z.slips(1, PLAIN, 7);
        z.slips(2, LEFT, 7);
        z.slips(4, ECHO, 7);
        Towers.compose(z, 12123);
        c.due("it is true with a change 0", z.repeats(0), NONE);
        c.due("a 0 is not told", z.compose(), 121213);
        // 24153 comes to 24531 in row 3: 1 2 0 1 3 2 would be true, and less
        HandedSlips v = Towers.bells(5, 120132);
        v.slips(0, LATE, 3);
        v.slips(1, LATE, 8);
        c.due("it is true with a change 0 behind others", v.repeats(0), NONE);
        c.due("a 0 behind others is not told", v.compose(), 121213);
    }

    private static HandedSlips slipsOfComposed(int which) {
        HandedSlips x = which == 0 ? new HandedSlips() : which == 1 ? notByOne() : Towers.bells(4, 0);
        if (which == 2) {
            x.slips(3, PLAIN, 11);
        }
        return x;
    }

    private static void composeLeast() {
        c.sentence(17, "is TRUE and least as a number");
        for (int which = 0; which < 3; which++) {
            int composed = slipsOfComposed(which).compose();
            HandedSlips best = slipsOfComposed(which);
            Towers.compose(best, composed);
            c.due(composed + " is true", best.repeats(0), NONE);
            int lesser = 0;
            for (int code = 0; code < 729; code++) {
                int method = 111111 + Integer.parseInt(Integer.toString(code, 3));
                HandedSlips x = slipsOfComposed(which);
                Towers.compose(x, method);
                lesser += method < composed && x.repeats(0) == NONE ? 1 : 0;
            }
            c.due("lesser ones than " + composed + " that are true", lesser, 0);
        }
    }

    // ---- 18

    /** True if bell 5's slip is made by a LENT one and bell 4's is not by a LEFT HAND, in a year told, with years told. */
    private static HandedSlips trueIfLentAndOdd(int townYear, int years) {
        return Towers.told("tower 5;method 1 2 1 2 1 2;slip 4 1 10;slip 0 0 11;slip 3 1 1;years " + townYear
            + ";ringer 4 5 0;ringer 3 4 " + years + ";");
    }

    private static void when() {
        c.sentence(18, "in how many YEARS (0 .. 60) it is TRUE first; none.");
        HandedSlips x = Towers.bells(5, 323232);
        c.answers(x, "now", 0, x::when);
        // the left hand's years are odd in the odd years of the town, until they end at 99 in its year 61
        HandedSlips y = trueIfLentAndOdd(2, 40);
        c.answers(y, "in sixty years", 60, y::when);
        HandedSlips z = trueIfLentAndOdd(3, 39);
        c.answers(z, "in 61 years", NONE, z::when);
        HandedSlips never = new HandedSlips();
        c.answers(never, "never", NONE, never::when);
        z.year(1);
        c.due("in sixty years then", z.when(), 60);
        z.year(60);
        c.due("now, sixty years later", z.when(), 0);
    }

    private static void whenYearsEnd() {
        c.sentence(18, "(Nothing is changed by these; YEARS go beyond 999 in them.)");
        String until999 = "years 99;".repeat(10) + "years 9;";
        HandedSlips x = Towers.told("tower 5;method 1 2 1 2 1 2;slip 4 1 10;slip 0 0 11;" + until999);
        x.hands(4, Towers.LENT);
        // 999 is odd, 1000 is divided by 5, 1001 is odd
        c.answers(x, "made in 1002", 3, x::when);
        x.hands(4, LEARNER);
        c.answers(x, "his years go on, too", 3, x::when);
        c.due("in year() they do not", x.year(3), 0);
        c.sentence(18, "YEARS of each RINGER are one more (99 at most)");
        HandedSlips y = Towers.told("tower 5;method 1 2 1 2 1 2;slip 4 1 10;slip 0 0 11;ringer 4 4 99;");
        c.answers(y, "99 stay odd", NONE, y::when);
        HandedSlips z = Towers.told("tower 5;method 1 2 1 2 1 2;slip 4 1 10;slip 0 0 11;ringer 4 4 97;");
        c.answers(z, "97, then 98", 1, z::when);
    }

    // ---- 19

    private static void clean() {
        c.sentence(19, "RINGERS (bits) who make no SLIP now (also of ROPES that have none).");
        for (int n = 4; n <= 6; n++) {
            HandedSlips x = Towers.bells(n, 0);
            int all = (1 << n) - 1;
            c.answers(x, "no slips of " + n, all, x::clean);
            for (int r = 0; r < n; r++) {
                x.slips(r, DROPPED, 1);
            }
            c.answers(x, "all make theirs of " + n, 0, x::clean);
            x.hands(n - 1, LEARNER);
            c.answers(x, "the last does not", 1 << n - 1, x::clean);
            x.drops(0);
            c.answers(x, "the first has none", (1 << n - 1) + 1, x::clean);
        }
    }
}
