/** Promises 34 to 38: each sentence that names a boundary case, with a check of its own. */
public final class EdgeKeptTest {
    private static final int NONE = Towers.NONE, BAD = Towers.BAD, NO = Towers.NO, FULL = Towers.FULL;
    private static final int PLAIN = Towers.PLAIN, EARLY = Towers.EARLY, LATE = Towers.LATE;
    private static final int DROPPED = Towers.DROPPED, ECHO = Towers.ECHO;
    private static final int OLD = Towers.OLD, LEARNER = Towers.LEARNER, LENT = Towers.LENT;
    private static final int LOWEST = Towers.LOWEST, HIGHEST = Towers.HIGHEST;

    private static final Checks c = new Checks();

    public static void main(String[] args) {
        image();
        imageKeeps();
        imageKeepsNot();
        from();
        status();
        statusIsNot();
        countLeast();
        countMost();
        digestLeast();
        digestMost();
        c.covers(34, 38);
        c.end();
    }

    /** Six bells with the most of all that is kept: slips, what may be undone, HEARD ones, NOTES, MARKS; the years 998. */
    private static HandedSlips most() {
        HandedSlips x = Towers.told("tower 6;method 3 2 3 2 3 2;" + "years 99;".repeat(10));
        for (int r = 0; r < 6; r++) {
            x.slips(r, r, 1 + r);
        }
        x.hands(5, LENT);
        x.hands(0, LEARNER);
        x.year(8);
        for (int i = 1; i <= 6; i++) {
            x.heard(2 * i - 1, i % 2 == 0 ? 654321 : 123456);
            x.note(i - 1, i, 7 - i);
            x.mark(i - 1, 16 * i, 100 - 16 * i, i % 2);
        }
        return x;
    }

    // ---- 34 and 35

    private static void image() {
        c.sentence(34, "An IMAGE is kept: 1. BAD.");
        HandedSlips x = Towers.filled();
        for (int i : new int[] {-1, 2, LOWEST, HIGHEST}) {
            c.bad(x, "image " + i, () -> x.image(i));
        }
        c.answers(x, "image 0", 1, () -> x.image(0));
        c.answers(x, "image 1, in place of one", 1, () -> x.image(1));
        c.sentence(34, "IMAGES 0, 1 keep all but them");
        HandedSlips y = new HandedSlips();
        y.image(0);
        y.tower(4);
        y.image(1);
        y.tower(6);
        c.due("the one", y.from(0) + y.count(0), 6);
        c.due("the other", y.from(1) + y.count(0), 5);
        y.slips(3, LATE, 1);
        y.image(0);
        y.tower(6);
        y.from(0);
        c.due("the later in place of the one", y.count(0), 4);
        c.due("its slip", y.count(1), 1);
        y.from(1);
        c.due("the other is as it was", y.count(1), 0);
        c.due("images are not in an image", y.from(0) + y.count(1), 2);
    }

    private static void imageKeeps() {
        c.sentence(34, "what may be undone they keep; it goes on from one");
        for (int i = 0; i < 2; i++) {
            HandedSlips x = most();
            long before = x.digest();
            c.due("image " + i, x.image(i), 1);
            x.method(0, 1);
            x.forget(0);
            x.forget(1);
            x.forget(2);
            for (int many = 0; many < 8; many++) {
                x.slips(many % 6, ECHO, 11);
                x.heard(11, 132456);
                x.note(5, 5, 5);
                x.mark(5, 55, 5, 0);
            }
            c.holds("all is another", x.digest() != before);
            c.due("from " + i, x.from(i), 1);
            c.due("all is back", x.digest(), before);
            c.due("eight may be undone", x.count(8), 8);
            c.due("the years", x.undo(), 990);
            c.due("a ringer", x.undo() + x.of(0, 2), 990 + OLD);
            c.due("another", x.undo() + x.of(5, 2), 990 + OLD);
            for (int r = 5; r >= 1; r--) {
                c.due("the slip of " + r, x.undo() + x.of(r, 0), 990 + NONE);
            }
            c.refused(x, "the ninth is lost", NO, x::undo);
            c.due("the image is as it was", x.from(i) + x.count(8), 9);
            c.due("all is back again", x.digest(), before);
        }
    }

    private static void imageKeepsNot() {
        c.sentence(35, "IMAGES 0, 1 keep all but them, THE TEXT, THE FRACTION and STATUS");
        HandedSlips x = Towers.filled();
        x.image(0);
        Towers.typeAll(x, "cd");
        x.odds(10);
        x.of(9, 9);
        x.image(1);
        x.from(0);
        c.due("the text", x.count(9), 4);
        c.due("the fraction, above", x.part(0), 1);
        c.due("the fraction, below", x.part(1), 1);
        c.due("status", x.status(0), 2);
        c.due("image 1 is there", x.from(1), 1);
    }

    private static void from() {
        c.sentence(35, "BAD; NO: none was kept.");
        HandedSlips x = Towers.bells(6, 123123);
        for (int i : new int[] {-1, 2, LOWEST, HIGHEST}) {
            c.bad(x, "from " + i, () -> x.from(i));
        }
        c.refused(x, "from 0", NO, () -> x.from(0));
        c.refused(x, "from 1", NO, () -> x.from(1));
        x.image(1);
        c.refused(x, "from 0, one kept as 1", NO, () -> x.from(0));
        c.answers(x, "from 1", 1, () -> x.from(1));
        HandedSlips y = Towers.bells(6, 123123);
        y.image(0);
        c.refused(y, "from 1, one kept as 0", NO, () -> y.from(1));
        y.image(2);
        c.refused(y, "from 1 behind a bad image", NO, () -> y.from(1));
        c.answers(y, "from 0", 1, () -> y.from(0));
        y.tower(4);
        Towers.readText(y, "tower 5;");
        c.due("an image stays behind tower and read", y.from(0) + y.count(0), 7);
    }

    // ---- 36

    private static void statusDue(String where, HandedSlips x, int bad, int no, int full) {
        c.due(where + ": bad", x.status(0), bad);
        c.due(where + ": no", x.status(1), no);
        c.due(where + ": full", x.status(2), full);
    }

    private static void status() {
        c.sentence(36, "-1: another what (counts as BAD).");
        HandedSlips x = new HandedSlips();
        statusDue("none refused", x, 0, 0, 0);
        int bad = 0;
        for (int what : new int[] {-1, 3, LOWEST, HIGHEST}) {
            c.due("status " + what, x.status(what), -1);
            bad++;
            statusDue("behind status " + what, x, bad, 0, 0);
        }
        c.sentence(36, "STATUS: how many calls were refused as BAD, NO, FULL (each answer told so below is such a one).");
        HandedSlips y = new HandedSlips();
        c.due("undo", y.undo(), NO);
        statusDue("one no", y, 0, 1, 0);
        c.due("drops", y.drops(5), BAD);
        statusDue("one bad", y, 1, 1, 0);
        Towers.typeAll(y, " ".repeat(150));
        c.due("type", y.type(' '), FULL);
        statusDue("one full", y, 1, 1, 1);
        for (int many = 2; many <= 100; many++) {
            y.tower(7);
            y.from(1);
            y.type(' ');
        }
        statusDue("a hundred of each", y, 100, 100, 100);
    }

    private static void statusIsNot() {
        c.sentence(36, "(each answer told so below is such a one)");
        HandedSlips x = new HandedSlips();
        c.due("of 0 0", x.of(0, 0), NONE);
        c.due("mend", x.mend(), NONE);
        c.due("when", x.when(), NONE);
        c.due("read", x.read(), -10);
        Towers.typeAll(x, "x");
        c.due("read", x.read(), -10);
        statusDue("answers that are no refusals", x, 0, 0, 0);
    }

    // ---- 37

    private static void countLeast() {
        c.sentence(37, "How many: 0 BELLS, 1 SLIPS, 2 of these made now, 3 the TOWN's YEAR,");
        HandedSlips x = new HandedSlips();
        x.tower(4);
        for (int what = 0; what <= 9; what++) {
            int asked = what;
            c.answers(x, "the least of " + what, what == 0 ? 4 : 0, () -> x.count(asked));
        }
        c.sentence(37, "8 that may be undone, 9 bytes of THE TEXT. BAD.");
        for (int what : new int[] {-1, 10, LOWEST, HIGHEST}) {
            c.bad(x, "count " + what, () -> x.count(what));
        }
        c.sentence(37, "4 ROWS that are RUNG otherwise than MEANT");
        HandedSlips y = new HandedSlips();
        y.slips(0, PLAIN, 3);
        y.slips(1, PLAIN, 3);
        c.due("two are made in row 3", y.count(2), 2);
        c.due("21345, then 12345 as meant", y.count(4), 0);
        y.slips(4, EARLY, 3);
        c.due("three in one row", y.count(4), 1);
        y.hands(4, LEARNER);
        c.due("it is not made", y.count(4), 0);
        y.slips(0, PLAIN, 11);
        y.slips(1, PLAIN, 1);
        c.due("the first row and the last", y.count(4), 2);
    }

    private static void countMost() {
        c.sentence(37, "5 HEARD, 6 NOTES, 7 MARKS");
        HandedSlips x = most();
        c.due("heard", x.count(5), 4);
        c.due("notes", x.count(6), 6);
        c.due("marks", x.count(7), 6);
        c.sentence(37, "How many:");
        x.year(60);
        Towers.typeAll(x, "x".repeat(160));
        for (int r = 0; r < 6; r++) {
            x.slips(r, DROPPED, 1 + r);
            x.hands(r, OLD);
        }
        // bell 4 in row 4 and bell 5 in row 5 are near enough to the last place to be dropped
        int[] told = {6, 6, 6, 999, 2, 4, 6, 6, 8, 150};
        for (int what = 0; what <= 9; what++) {
            c.due("the most of " + what, x.count(what), told[what]);
        }
        HandedSlips y = Towers.bells(6, 0);
        int[] kinds = {PLAIN, PLAIN, PLAIN, PLAIN, PLAIN, EARLY};
        for (int r = 0; r < 6; r++) {
            y.slips(r, kinds[r], 6 + r);
        }
        c.due("six rows", y.count(4), 6);
    }

    // ---- 38

    private static void digestLeast() {
        c.sentence(38, "h = 1549; then h = 31 h + v for each v: count(0) to count(9); six CHANGES;");
        HandedSlips x = new HandedSlips();
        x.tower(4);
        c.answers(x, "four bells, nothing told", Towers.mixed(
            4, 0, 0, 0, 0, 0, 0, 0, 0, 0, 0, 0, 0, 0, 0, 0,
            -1, -1, 0, 0, -1, -1, 0, 0, -1, -1, 0, 0, -1, -1, 0, 0, 0, 1), x::digest);
        x.status(7);
        c.due("status is not in it, nor what was refused", x.digest(), Towers.mixed(
            4, 0, 0, 0, 0, 0, 0, 0, 0, 0, 0, 0, 0, 0, 0, 0,
            -1, -1, 0, 0, -1, -1, 0, 0, -1, -1, 0, 0, -1, -1, 0, 0, 0, 1));
    }

    private static void digestMost() {
        c.sentence(38, "of HEARD r, bells; of NOTES r, p, q; of MARKS r, y, t, made; THE FRACTION.");
        HandedSlips x = most();
        x.odds(3);
        Towers.typeAll(x, "x".repeat(150));
        // all six are made; those of bells 2 and 6 move none; bell 1's brings row 1 to row 8, bell 3's row 3 to row 7
        c.due("the most of all", x.digest(), Towers.mixed(
            6, 6, 6, 998, 4, 4, 6, 6, 8, 150,
            3, 2, 3, 2, 3, 2,
            0, 1, LEARNER, 8, 1, 2, 0, 99, 2, 3, 0, 99, 3, 4, 0, 99, 4, 5, 0, 99, 5, 6, LENT, 8,
            1, 123456, 3, 654321, 5, 123456, 7, 654321,
            0, 1, 6, 1, 2, 5, 2, 3, 4, 3, 4, 3, 4, 5, 2, 5, 6, 1,
            0, 16, 84, 1, 1, 32, 68, 0, 2, 48, 52, 1, 3, 64, 36, 0, 4, 80, 20, 1, 5, 96, 4, 0,
            9, 100));
    }
}
