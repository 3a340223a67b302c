import java.util.Arrays;

/** Each promise by answers worked out by hand: ordinary inputs, the edges that the document names, wrong inputs. */
public final class PromiseTest {
    private static final int NONE = Towers.NONE, BAD = Towers.BAD, NO = Towers.NO, FULL = Towers.FULL;
    private static final int PLAIN = Towers.PLAIN, EARLY = Towers.EARLY, LATE = Towers.LATE;
    private static final int DROPPED = Towers.DROPPED, LEFT = Towers.LEFT, ECHO = Towers.ECHO;
    private static final int OLD = Towers.OLD, LEARNER = Towers.LEARNER, PROUD = Towers.PROUD;
    private static final int STRANGER = Towers.STRANGER, LEFT_HAND = Towers.LEFT_HAND, LENT = Towers.LENT;
    private static final int LOWEST = Towers.LOWEST, HIGHEST = Towers.HIGHEST;

    private static final Checks c = new Checks();

    public static void main(String[] args) {
        aNewObject();
        tower();
        method();
        type();
        clear();
        readWholes();
        readFaults();
        readLeaves();
        slips();
        slipKinds();
        drops();
        hands();
        year();
        yearAtTheEnd();
        undo();
        of();
        ringers();
        rowMeant();
        rowRung();
        repeats();
        clash();
        mend();
        compose();
        when();
        whenFarOff();
        clean();
        heard();
        who();
        tell();
        note();
        mark();
        forget();
        is();
        look();
        kinds();
        ask();
        lends();
        odds();
        weddings();
        part();
        images();
        status();
        count();
        digest();
        c.end();
    }

    // ---- what the tests share

    private static void rowsDue(HandedSlips x, int what, int[] rows) {
        for (int k = 0; k < 12; k++) {
            c.due("row " + k + " " + what, x.row(k, what), rows[k]);
        }
    }

    private static void fractionDue(String where, HandedSlips x, long above, long below) {
        c.due(where + ": above", x.part(0), above);
        c.due(where + ": below", x.part(1), below);
    }

    // ---- 1 to 6

    private static void aNewObject() {
        HandedSlips x = new HandedSlips();
        c.due("digest of a new one", x.digest(), 1297025891350155977L);
        c.due("text of a new one", x.count(9), 0);
        fractionDue("a new one", x, 0, 1);
        for (int what = 0; what < 3; what++) {
            c.due("status of a new one", x.status(what), 0);
        }
        Towers.asAtFirst(c, "a new one", x, 5);
        c.due("no image", x.from(0), NO);
        c.due("no image", x.from(1), NO);
        c.due("nothing to undo", x.undo(), NO);
        HandedSlips y = new HandedSlips();
        y.slips(0, LATE, 3);
        c.due("another is its own", x.count(1), 0);
    }

    private static void tower() {
        HandedSlips x = new HandedSlips();
        c.due("tower 4", x.tower(4), 5);
        Towers.asAtFirst(c, "tower 4", x, 4);
        c.due("tower 6", x.tower(6), 4);
        Towers.asAtFirst(c, "tower 6", x, 6);
        c.due("tower 5", x.tower(5), 6);
        Towers.asAtFirst(c, "tower 5", x, 5);
        for (int n : new int[] {6, 4, 5}) {
            HandedSlips y = Towers.filled();
            c.due("tower " + n, y.tower(n), 6);
            Towers.asAtFirst(c, "a filled one, tower " + n, y, n);
            c.due("the text stays", y.count(9), 2);
            fractionDue("the fraction stays", y, 3, 10);
            c.due("status stays", y.status(0), 2);
            c.due("the image stays", y.from(1), 1);
            c.due("the image stays as it was", y.count(1), 2);
        }
        for (int n : new int[] {3, 7, 0, -4, LOWEST, HIGHEST}) {
            HandedSlips y = Towers.filled();
            c.bad(y, "tower " + n, () -> y.tower(n));
        }
    }

    private static void method() {
        HandedSlips x = new HandedSlips();
        for (int k = 0; k < 6; k++) {
            c.due("method " + k + " 3", x.method(k, 3), 0);
            c.due("method " + k + " " + k % 4, x.method(k, k % 4), 3);
            c.due("method " + k + " 0", x.method(k, 0), k % 4);
        }
        HandedSlips y = Towers.filled();
        c.due("may be undone", y.count(8), 4);
        c.due("the same change told again", y.method(0, 3), 3);
        c.due("then none may be undone", y.count(8), 0);
        c.refused(y, "undo behind a method", NO, y::undo);
        c.due("its slips stay", y.count(1), 2);
        for (int k : new int[] {-1, 6, LOWEST, HIGHEST}) {
            HandedSlips z = Towers.filled();
            c.bad(z, "method " + k + " 1", () -> z.method(k, 1));
        }
        for (int change : new int[] {-1, 4, LOWEST, HIGHEST}) {
            HandedSlips z = Towers.filled();
            c.bad(z, "method 0 " + change, () -> z.method(0, change));
            c.due("a bad one leaves what may be undone", z.count(8), 4);
        }
    }

    private static void type() {
        HandedSlips x = new HandedSlips();
        c.due("type 0", x.type(0), 1);
        c.due("type 127", x.type(127), 2);
        for (int code : new int[] {-1, 128, 255, LOWEST, HIGHEST}) {
            c.bad(x, "type " + code, () -> x.type(code));
        }
        for (int i = 3; i <= 150; i++) {
            c.due("type " + i, x.type('a'), i);
        }
        c.refused(x, "type the 151st", FULL, () -> x.type('a'));
        c.bad(x, "type a bad 151st", () -> x.type(128));
        c.due("its bytes", x.count(9), 150);
    }

    private static void clear() {
        HandedSlips x = new HandedSlips();
        c.due("clear none", x.clear(), 0);
        Towers.typeAll(x, "tower 6;");
        c.due("clear", x.clear(), 8);
        c.due("cleared", x.count(9), 0);
        c.due("nothing to read", x.read(), -10);
        c.due("clear again", x.clear(), 0);
        Towers.typeAll(x, "tower 4;");
        c.due("read anew", x.read(), 1);
        c.due("bells", x.count(0), 4);
        Towers.typeAll(x, "x".repeat(142));
        c.due("clear a full one", x.clear(), 150);
        c.due("type again", x.type('t'), 1);
    }

    private static void readWholes() {
        HandedSlips x = new HandedSlips();
        c.due("the least text", Towers.readText(x, "tower5;"), 1);
        Towers.asAtFirst(c, "the least text", x, 5);
        c.due("blanks", Towers.readText(x, "   tower   06  ;   "), 1);
        c.due("bells", x.count(0), 6);
        String text = "tower 4;method 3 2 1 0 1 02;slip 3 5 11;ringer 3 4 99;slip 0 0 1;years 2;ringer 0 3 07;";
        c.due("a whole one", Towers.readText(x, text), 7);
        int[] told = {4, 2, 0, 2};
        for (int what = 0; what < 4; what++) {
            c.due("count " + what, x.count(what), told[what]);
        }
        int[][] ropes = {{0, 1, 3, 7, 0}, {NONE, NONE, 0, 2, 0}, {NONE, NONE, 0, 2, 0}, {5, 11, 4, 99, 0}};
        for (int r = 0; r < 4; r++) {
            for (int what = 0; what <= 4; what++) {
                c.due("of " + r + " " + what, x.of(r, what), r == 0 && what == 4 ? 0 : ropes[r][what]);
            }
        }
        int[] changes = {3, 2, 1, 0, 1, 2};
        for (int k = 0; k < 6; k++) {
            c.due("change " + k, x.method(k, 0), changes[k]);
        }
        c.due("later ones stand", Towers.readText(x, "tower 5;slip 0 1 2;slip 0 2 3;method 1 1 1 1 1 1;method 2 2 2 2 2 2;"), 5);
        c.due("the later kind", x.of(0, 0), 2);
        c.due("the later change", x.method(5, 2), 2);
        c.due("years at the end", Towers.readText(x, "tower 5;" + "years 99;".repeat(9) + "years 98;ringer 0 4 5;years 20;"), 13);
        c.due("989 and 20 years", x.count(3), 999);
        c.due("ten of them go by for a ringer", x.of(0, 3), 15);
        c.due("99 at most", x.of(1, 3), 99);
        c.due("none goes by at 999", Towers.readText(x, "tower 5;" + "years 99;".repeat(11) + "ringer 0 4 5;years 9;"), 14);
        c.due("his years then", x.of(0, 3), 5);
        c.due("the most bytes", Towers.typeAll(x, " ".repeat(150 - x.count(9))), 150);
        c.due("a full text", x.read(), 14);
    }

    private static void fault(String text, int place) {
        HandedSlips x = Towers.filled();
        x.clear();
        Towers.typeAll(x, text);
        long before = x.digest();
        c.due("read '" + text + "'", x.read(), -10 - place);
        c.due("all stays behind '" + text + "'", x.digest(), before);
        c.due("it is no refusal of these", x.status(0) + x.status(1) + x.status(2), 1);
        c.due("the image stays", x.from(1), 1);
    }

    private static void readFaults() {
        fault("", 0);
        fault("   ", 3);
        fault("tower", 5);
        fault("tower ", 6);
        fault("tower 5", 7);
        fault("tower 5 ", 8);
        fault("tow", 0);
        fault("towers 5;", 0);
        fault("xower 5;", 0);
        fault("tower 5;xethod 1 1 1 1 1 1;", 8);
        fault("tower 5;slap 0 0 1;", 8);
        fault(" tower5; slips", 9);
        fault("Tower 5;", 0);
        fault("tower 3;", 6);
        fault("tower 7;", 6);
        fault("tower 005;", 6);
        fault("tower 555", 6);
        fault("tower 5 5;", 8);
        fault("tower five;", 6);
        fault("tower ;", 6);
        fault("tower -5;", 6);
        fault("tower 5,", 7);
        fault("tower\t5;", 5);
        fault(";", 0);
        fault("5;", 0);
        fault("  method 1 2 3 1 2 3;", 2);
        fault("slip 0 0 1;tower 5;", 0);
        fault("years 5;", 0);
        fault("ringer 0 0 0;", 0);
        fault("tower 5;tower 5;", 8);
        fault("tower 5;;", 8);
        fault("tower 5;5;", 8);
        fault("tower 5;  zzz", 10);
        fault("tower 5;" + (char) 127, 8);
        fault("tower 5;" + (char) 0, 8);
        fault("tower 5;method 1 2 3 1 2;", 24);
        fault("tower 5;method 1 2 3 1 2 3 1;", 27);
        fault("tower 5;method 4 2 3 1 2 3;", 15);
        fault("tower 5;method 123123;", 15);
        fault("tower 5;method 12 3 1 2 3;", 15);
        fault("tower 5;method 1 2 3 1 2 3", 26);
        fault("tower 5;slip 5 0 1;", 13);
        fault("tower 4;slip 4 0 1;", 13);
        fault("tower 6;slip 6 0 1;", 13);
        fault("tower 5;slip 0 6 1;", 15);
        fault("tower 5;slip 0 plain 1;", 15);
        fault("tower 5;slip 0 0 0;", 17);
        fault("tower 5;slip 0 0 12;", 17);
        fault("tower 5;slip 0 0 1", 18);
        fault("tower 5;slip 0 0 1 ringer", 19);
        fault("tower 5;ringer 5 0 1;", 15);
        fault("tower 5;ringer 0 6 1;", 17);
        fault("tower 5;ringer 0 0 100;", 19);
        fault("tower 5;ringer 0 0;", 18);
        fault("tower 5;years 0;", 14);
        fault("tower 5;years 00;", 14);
        fault("tower 5;years 100;", 14);
        fault("tower 5;years;", 13);
        HandedSlips x = new HandedSlips();
        c.due("the edges that may stand", Towers.readText(x, "tower6;slip5 5 11;slip 0 0 1;ringer5 5 99;ringer0 0 0;years1;years99;"), 7);
    }

    private static void readLeaves() {
        HandedSlips x = Towers.filled();
        x.clear();
        Towers.typeAll(x, "tower 6;");
        c.due("read", x.read(), 1);
        Towers.asAtFirst(c, "read into a filled one", x, 6);
        c.due("the text stays", x.count(9), 8);
        fractionDue("read", x, 3, 10);
        c.due("status stays", x.status(0), 2);
        c.due("nothing to undo", x.undo(), NO);
        c.due("the image stays", x.from(1), 1);
        c.due("the image's slips", x.count(1), 2);
        c.due("the text of now stays", x.count(9), 8);
        c.due("read twice", x.read(), 1);
        c.due("its slips are gone", x.count(1), 0);
        x.slips(0, LATE, 2);
        c.due("read a third time", x.read(), 1);
        c.due("none of what came between is left", x.count(1), 0);
        c.due("no year of it", x.count(3), 0);
    }

    // ---- 7 to 12

    private static void slips() {
        HandedSlips x = new HandedSlips();
        c.due("slips 0 0 1", x.slips(0, 0, 1), 0);
        c.due("slips 4 5 11", x.slips(4, 5, 11), 0);
        c.due("slips 0 3 2", x.slips(0, 3, 2), 1);
        c.due("its kind", x.of(0, 0), 3);
        c.due("its row", x.of(0, 1), 2);
        c.due("two ropes have one", x.count(1), 2);
        c.due("three may be undone", x.count(8), 3);
        for (int wrong : new int[] {-1, 12, 6, 5, LOWEST, HIGHEST}) {
            c.bad(x, "slips " + wrong + " 0 1", () -> x.slips(wrong, 0, 1));
            if (wrong != 5) {
                c.bad(x, "slips 0 " + wrong + " 1", () -> x.slips(0, wrong, 1));
            }
        }
        for (int wrong : new int[] {0, 12, -1, LOWEST, HIGHEST}) {
            c.bad(x, "slips 0 0 " + wrong, () -> x.slips(0, 0, wrong));
        }
        x.tower(4);
        c.bad(x, "slips 4 of four", () -> x.slips(4, 0, 1));
        x.tower(6);
        c.due("slips 5 of six", x.slips(5, 0, 1), 0);
    }

    /** To which places 1, 2, .. the kinds tell a bell, by how many bells. */
    private static final int[][][] PLACES = {
        {{2, 3, 4, 4}, {1, 1, 2, 2}, {3, 4, 4, 4}, {1, 4, 4, 4}, {4, 4, 3, 3}, {3, 4, 4, 4}},
        {{2, 3, 4, 5, 5}, {1, 1, 2, 3, 3}, {3, 4, 5, 5, 5}, {1, 2, 5, 5, 5}, {5, 5, 4, 3, 3}, {3, 4, 5, 5, 5}},
        {{2, 3, 4, 5, 6, 6}, {1, 1, 2, 3, 4, 4}, {3, 4, 5, 6, 6, 6}, {1, 2, 3, 6, 6, 6}, {6, 6, 5, 4, 3, 3},
            {3, 4, 5, 6, 6, 6}}};

    private static void slipKinds() {
        for (int n = 4; n <= 6; n++) {
            String rounds = "123456".substring(0, n);
            for (int kind = 0; kind < 6; kind++) {
                for (int r = 0; r < n; r++) {
                    HandedSlips x = new HandedSlips();
                    x.tower(n);
                    x.slips(r, kind, 7);
                    StringBuilder row = new StringBuilder(rounds).deleteCharAt(r);
                    row.insert(PLACES[n - 4][kind][r] - 1, r + 1);
                    String call = "of " + n + " bells the slip " + kind + " of " + r;
                    c.due(call, x.row(7, 1), Integer.parseInt(row.toString()));
                    c.due(call + " in another row", x.row(8, 1), Integer.parseInt(rounds));
                    c.due(call + " as meant", x.row(7, 0), Integer.parseInt(rounds));
                }
            }
        }
    }

    private static void drops() {
        HandedSlips x = new HandedSlips();
        x.slips(2, LEFT, 3);
        x.hands(2, LEARNER);
        c.refused(x, "drops where none is", NO, () -> x.drops(1));
        c.due("drops", x.drops(2), LEFT);
        c.due("its kind then", x.of(2, 0), NONE);
        c.due("its row then", x.of(2, 1), NONE);
        c.due("the ringer stays", x.of(2, 2), LEARNER);
        c.due("it may be undone", x.count(8), 3);
        c.refused(x, "drops again", NO, () -> x.drops(2));
        c.due("slips then", x.slips(2, PLAIN, 1), 0);
        c.due("drops a kind 0", x.drops(2), PLAIN);
        for (int wrong : new int[] {-1, 5, LOWEST, HIGHEST}) {
            c.bad(x, "drops " + wrong, () -> x.drops(wrong));
        }
    }

    private static void hands() {
        HandedSlips x = new HandedSlips();
        x.slips(3, EARLY, 9);
        x.year(7);
        c.due("hands", x.hands(3, STRANGER), 7);
        c.due("his kind", x.of(3, 2), STRANGER);
        c.due("his years", x.of(3, 3), 0);
        c.due("the slip stays", x.of(3, 0), EARLY);
        c.due("its row stays", x.of(3, 1), 9);
        c.due("another's years stay", x.of(2, 3), 7);
        c.due("hands again", x.hands(3, LENT), 0);
        c.due("it may be undone", x.count(8), 4);
        c.due("a rope without a slip", x.hands(0, OLD), 7);
        for (int wrong : new int[] {-1, 5, LOWEST, HIGHEST}) {
            c.bad(x, "hands " + wrong + " 0", () -> x.hands(wrong, 0));
        }
        for (int wrong : new int[] {-1, 6, LOWEST, HIGHEST}) {
            c.bad(x, "hands 0 " + wrong, () -> x.hands(0, wrong));
        }
    }

    private static void year() {
        HandedSlips x = new HandedSlips();
        c.due("a year of rounds", x.year(1), 0);
        Towers.compose(x, 323232);
        c.due("years of true rows", x.year(60), 1);
        c.due("the town's year", x.count(3), 61);
        c.due("a ringer's years", x.of(4, 3), 61);
        x.slips(1, PLAIN, 1);
        x.hands(1, LEFT_HAND);
        c.due("one year: not made", x.year(1), 1);
        c.due("two years: made", x.year(1), 0);
        c.due("four years", x.year(2), 0);
        c.due("together one to undo", x.count(8), 6);
        c.due("undo two years", x.undo(), 63);
        c.due("his years then", x.of(1, 3), 2);
        x.year(60);
        c.due("a ringer's years end at 99", x.of(0, 3), 99);
        c.due("the later one's do not", x.of(1, 3), 62);
        for (int wrong : new int[] {0, -1, 61, LOWEST, HIGHEST}) {
            c.bad(x, "year " + wrong, () -> x.year(wrong));
        }
    }

    private static void yearAtTheEnd() {
        HandedSlips x = new HandedSlips();
        for (int i = 0; i < 16; i++) {
            x.year(60);
        }
        x.hands(0, LEARNER);
        x.year(60);
        c.due("999 at most", x.count(3), 999);
        c.due("39 years went by", x.of(0, 3), 39);
        c.due("no year goes by", x.year(5), 0);
        c.due("still 999", x.count(3), 999);
        c.due("no years of his", x.of(0, 3), 39);
        c.due("undo none gone by", x.undo(), 999);
        c.due("undo 39", x.undo(), 960);
        c.due("his years undone", x.of(0, 3), 0);
        x.method(0, 0);
        x.year(60);
        x.year(1);
        c.due("one that may be undone though none went by", x.count(8), 2);
    }

    private static void undo() {
        HandedSlips x = new HandedSlips();
        c.refused(x, "undo none", NO, x::undo);
        long first = x.digest();
        x.slips(0, LATE, 5);
        x.slips(0, EARLY, 6);
        x.hands(0, PROUD);
        x.year(9);
        x.hands(0, LENT);
        x.drops(0);
        c.due("undo drops", x.undo(), 9);
        c.due("the kind is back", x.of(0, 0), EARLY);
        c.due("the row is back", x.of(0, 1), 6);
        c.due("undo hands", x.undo(), 9);
        c.due("the ringer is back", x.of(0, 2), PROUD);
        c.due("his years are back", x.of(0, 3), 9);
        c.due("undo years", x.undo(), 0);
        c.due("their years are back", x.of(1, 3), 0);
        c.due("undo hands again", x.undo(), 0);
        c.due("the first is back", x.of(0, 2), OLD);
        c.due("undo the second slip", x.undo(), 0);
        c.due("the first slip is back", x.of(0, 1), 5);
        c.due("undo the first slip", x.undo(), 0);
        c.due("all is as at first", x.digest(), first);
        c.refused(x, "undo one too many", NO, x::undo);
        for (int row = 1; row <= 10; row++) {
            x.slips(1, PLAIN, row);
        }
        c.due("eight at most", x.count(8), 8);
        for (int row = 9; row >= 2; row--) {
            c.due("undo to row " + row, x.undo(), 0);
            c.due("row " + row, x.of(1, 1), row);
        }
        c.refused(x, "undo a ninth", NO, x::undo);
        HandedSlips y = new HandedSlips();
        y.slips(0, LATE, 5);
        y.heard(1, 12345);
        y.note(0, 1, 2);
        y.mark(0, 1, 2, 1);
        c.due("these are not to be undone", y.count(8), 1);
        y.undo();
        c.due("heard ones stay", y.count(5) + y.count(6) + y.count(7), 3);
    }

    private static void of() {
        HandedSlips x = new HandedSlips();
        x.slips(1, ECHO, 8);
        x.hands(1, LEARNER);
        int[] before = {ECHO, 8, LEARNER, 0, 0};
        for (int what = 0; what < 5; what++) {
            c.due("of 1 " + what, x.of(1, what), before[what]);
        }
        x.year(3);
        c.due("made at three years", x.of(1, 4), 1);
        c.due("none to make", x.of(2, 4), 0);
        c.due("no refusals", x.status(0) + x.status(1), 0);
        for (int wrong : new int[] {-1, 5, LOWEST, HIGHEST}) {
            c.bad(x, "of " + wrong + " 0", () -> x.of(wrong, 0));
            c.bad(x, "of 1 " + wrong, () -> x.of(1, wrong));
        }
    }

    /** Whether each kind makes it, by years and the town's year, as the terms tell. */
    private static void ringers() {
        int[][] told = {
            // y, t, then old, learner, proud, stranger, left hand, lent
            {0, 0, 1, 0, 0, 0, 1, 0}, {2, 2, 1, 0, 1, 0, 1, 1}, {3, 3, 1, 1, 1, 0, 0, 0}, {4, 5, 1, 1, 0, 0, 1, 0},
            {8, 8, 1, 1, 1, 0, 1, 1}, {9, 9, 1, 1, 1, 1, 0, 0}, {9, 10, 1, 1, 0, 1, 0, 0}, {10, 12, 1, 1, 1, 1, 1, 1},
            {99, 14, 1, 1, 1, 1, 0, 1}, {1, 15, 1, 0, 0, 0, 0, 0}};
        for (int[] row : told) {
            for (int kind = 0; kind < 6; kind++) {
                HandedSlips x = new HandedSlips();
                int years = row[1];
                String text = "tower 5;" + (years > 0 ? "years " + years + ";" : "") + "slip 2 0 3;ringer 2 " + kind + " " + row[0] + ";";
                Towers.readText(x, text);
                c.due(text + " made", x.of(2, 4), row[2 + kind]);
                c.due(text + " rung", x.row(3, 1), row[2 + kind] == 1 ? 12435 : 12345);
            }
        }
    }

    // ---- 13 to 19

    private static void rowMeant() {
        rowsDue(Towers.bells(5, 323232), 0, Towers.TRUE_ROWS);
        rowsDue(Towers.bells(6, 121212), 0, Towers.HUNT_ROWS);
        rowsDue(Towers.bells(4, 121213), 0, new int[] {
            1234, 2143, 2413, 4231, 4321, 3412, 4312, 3421, 3241, 2314, 2134, 1243});
        rowsDue(Towers.bells(5, 121213), 0, new int[] {
            12345, 21435, 24153, 42513, 45231, 54321, 45321, 54231, 52413, 25143, 21534, 12354});
        rowsDue(Towers.bells(5, 1), 0, new int[] {
            12345, 12345, 12345, 12345, 12345, 12345, 21435, 21435, 21435, 21435, 21435, 21435});
        HandedSlips x = Towers.filled();
        for (int wrong : new int[] {-1, 12, LOWEST, HIGHEST}) {
            c.bad(x, "row " + wrong + " 0", () -> x.row(wrong, 0));
            c.bad(x, "row " + wrong + " 1", () -> x.row(wrong, 1));
        }
        for (int wrong : new int[] {-1, 2, LOWEST, HIGHEST}) {
            c.bad(x, "row 0 " + wrong, () -> x.row(0, wrong));
        }
    }

    private static void rowRung() {
        HandedSlips x = Towers.bells(5, 323232);
        x.slips(0, PLAIN, 1);
        x.slips(1, PLAIN, 1);
        x.slips(4, EARLY, 11);
        int[] rung = Towers.TRUE_ROWS.clone();
        // bell 1 from 2 to 3: 23145; then bell 2, where it is then, from 1 to 2
        rung[1] = 32145;
        // bell 5 from 4 to 3
        rung[11] = 13524;
        rowsDue(x, 1, rung);
        rowsDue(x, 0, Towers.TRUE_ROWS);
        x.hands(0, LEARNER);
        rung[1] = 12345;
        rowsDue(x, 1, rung);
        HandedSlips y = new HandedSlips();
        y.slips(4, LEFT, 2);
        y.slips(3, LATE, 2);
        y.slips(0, LATE, 2);
        // bell 1 to 3: 23145; bell 4 from 4 to 5: 23154; bell 5 from 4 to 6 less EARLY 3: 23514
        c.due("by ropes, not as they were put", y.row(2, 1), 23514);
    }

    private static void repeats() {
        HandedSlips x = new HandedSlips();
        c.due("rounds repeat at once", x.repeats(0), 1);
        c.due("the earlier one", x.repeats(1), 0);
        Towers.compose(x, 121212);
        c.due("five bells hunt ten rows", x.repeats(0), 10);
        c.due("like row 0", x.repeats(1), 0);
        x.slips(4, EARLY, 10);
        c.due("then the next", x.repeats(0), 11);
        c.due("like row 1", x.repeats(1), 1);
        HandedSlips y = Towers.bells(5, 323232);
        c.due("none", y.repeats(0), NONE);
        c.due("none earlier", y.repeats(1), NONE);
        y.slips(2, PLAIN, 3);
        c.due("row 3 is row 2", y.repeats(0), 3);
        c.due("row 2", y.repeats(1), 2);
        c.due("none is no refusal", y.status(0) + y.status(1), 0);
        for (int wrong : new int[] {-1, 2, LOWEST, HIGHEST}) {
            c.bad(y, "repeats " + wrong, () -> y.repeats(wrong));
        }
    }

    private static void clash() {
        HandedSlips x = new HandedSlips();
        c.due("none made", x.clash(0), 0);
        c.due("no row", x.clash(1), 0);
        x.slips(0, PLAIN, 9);
        c.due("one", x.clash(0), 1);
        c.due("its row", x.clash(1), 9);
        x.slips(1, PLAIN, 4);
        c.due("the first such row", x.clash(1), 4);
        x.slips(2, LATE, 9);
        c.due("two", x.clash(0), 2);
        c.due("their row", x.clash(1), 9);
        x.slips(3, DROPPED, 9);
        x.hands(2, LEARNER);
        x.hands(3, LEARNER);
        c.due("those made alone", x.clash(0), 1);
        c.due("row 4 again", x.clash(1), 4);
        x.hands(0, LEARNER);
        x.hands(1, LEARNER);
        c.due("none of four made", x.clash(0), 0);
        c.due("no row then", x.clash(1), 0);
        x.slips(4, PLAIN, 11);
        c.due("the last row", x.clash(1), 11);
        x.slips(4, PLAIN, 1);
        c.due("the first row", x.clash(1), 1);
        c.due("one in it", x.clash(0), 1);
        for (int wrong : new int[] {-1, 2, LOWEST, HIGHEST}) {
            c.bad(x, "clash " + wrong, () -> x.clash(wrong));
        }
    }

    private static void mend() {
        c.due("rounds are not mended", new HandedSlips().mend(), NONE);
        HandedSlips x = Towers.bells(5, 323232);
        c.due("it is true", x.mend(), 0);
        x.slips(1, PLAIN, 1);
        c.due("one of one", x.mend(), 2);
        x.slips(4, EARLY, 9);
        c.due("one of two", x.mend(), 2);
        x.slips(2, PLAIN, 3);
        c.due("two of three", x.mend(), 6);
        x.hands(1, LEARNER);
        c.due("of those made now", x.mend(), 4);
        x.hands(2, LEARNER);
        c.due("it is true now", x.mend(), 0);
        HandedSlips y = Towers.bells(5, 323232);
        y.slips(1, PLAIN, 11);
        y.slips(4, EARLY, 5);
        c.due("both make 13524", y.repeats(0), 11);
        c.due("of like ones the least", y.mend(), 2);
        y.slips(3, PLAIN, 1);
        // 21354 is row 7, so 8 must be among them
        c.due("fewest, then least", y.mend(), 10);
        HandedSlips v = Towers.bells(5, 121213);
        v.slips(0, PLAIN, 11);
        v.slips(1, EARLY, 11);
        v.slips(2, PLAIN, 11);
        // 12354 comes to 21534, as row 10 is; without the first two, bits 3, it is 12534, without the third alone 21354
        c.due("the fewest, though more bits are less", v.mend(), 4);
        HandedSlips z = Towers.bells(5, 121212);
        z.slips(4, EARLY, 10);
        c.due("slips can not be put by it", z.mend(), NONE);
        z.slips(0, PLAIN, 11);
        c.due("slips that make it true", z.mend(), 0);
        c.due("none is no refusal", z.status(1), 0);
    }

    private static void compose() {
        c.due("four bells", Towers.bells(4, 0).compose(), 121213);
        c.due("five bells", Towers.bells(5, 0).compose(), 121213);
        c.due("six bells", Towers.bells(6, 333333).compose(), 121212);
        HandedSlips x = Towers.bells(4, 321321);
        x.slips(3, PLAIN, 11);
        long before = x.digest();
        c.due("round a slip", x.compose(), 123132);
        c.due("nothing is changed", x.digest(), before);
        x.hands(3, LEARNER);
        c.due("round none made now", x.compose(), 121213);
        HandedSlips y = Towers.bells(4, 0);
        y.slips(1, PLAIN, 1);
        y.slips(2, LATE, 1);
        y.slips(3, LATE, 1);
        // 2143, 1324 and 2134 all come to 1234 by these
        c.due("round slips that bring row 1 back", y.compose(), NONE);
        c.due("none is no refusal", y.status(1), 0);
        HandedSlips z = Towers.bells(5, 0);
        z.slips(0, LATE, 1);
        z.slips(1, PLAIN, 7);
        z.slips(2, LEFT, 7);
        z.slips(4, ECHO, 7);
        // 0 1 2 1 2 3 would be true and less
        c.due("of the changes 1 to 3", z.compose(), 121213);
        Towers.compose(z, 12123);
        c.due("a true one with a change 0", z.repeats(0), NONE);
        y.drops(2);
        Towers.compose(y, y.compose());
        c.due("what it tells is true", y.repeats(0), NONE);
    }

    private static void when() {
        HandedSlips x = Towers.bells(5, 323232);
        c.due("now", x.when(), 0);
        x.slips(1, PLAIN, 1);
        c.due("never", x.when(), NONE);
        x.hands(1, LEFT_HAND);
        c.due("at one year", x.when(), 1);
        x.hands(1, PROUD);
        c.due("in year 0", x.when(), 0);
        x.year(1);
        c.due("in year 5", x.when(), 4);
        HandedSlips y = Towers.bells(5, 121212);
        c.due("it never is", y.when(), NONE);
        Towers.readText(y, "tower 5;method 1 2 1 2 1 2;slip 4 1 10;slip 0 0 11;ringer 4 3 0;ringer 0 1 0;");
        long before = y.digest();
        c.due("by a stranger of nine years", y.when(), 9);
        c.due("nothing is changed", y.digest(), before);
        c.due("eight years", y.year(8), 0);
        c.due("nine years", y.year(1), 1);
        y.hands(4, STRANGER);
        c.due("another nine", y.when(), 9);
    }

    private static void whenFarOff() {
        HandedSlips x = new HandedSlips();
        Towers.readText(x, "tower 5;method 3 2 3 2 3 2;slip 1 0 1;" + "years 99;".repeat(10) + "years 9;");
        x.hands(1, PROUD);
        c.due("the town's year", x.count(3), 999);
        c.due("in year 1000", x.when(), 1);
        c.due("no year went by", x.count(3), 999);
        x.hands(1, LEFT_HAND);
        c.due("his years go on", x.when(), 1);
        Towers.readText(x, "tower 5;method 3 2 3 2 3 2;slip 1 0 1;ringer 1 4 98;");
        c.due("98, then 99", x.when(), 1);
        Towers.readText(x, "tower 5;method 1 2 1 2 1 2;slip 4 1 10;slip 0 0 11;ringer 4 4 99;");
        c.due("99 stay odd", x.when(), NONE);
    }

    private static void clean() {
        HandedSlips x = new HandedSlips();
        c.due("all five", x.clean(), 31);
        x.slips(0, PLAIN, 1);
        c.due("all but the first", x.clean(), 30);
        x.slips(3, PLAIN, 2);
        c.due("all but two", x.clean(), 22);
        x.hands(3, LEARNER);
        c.due("a learner is clean", x.clean(), 30);
        x.year(3);
        c.due("and then not", x.clean(), 22);
        x.tower(4);
        c.due("all four", x.clean(), 15);
        x.tower(6);
        c.due("all six", x.clean(), 63);
        x.slips(5, DROPPED, 1);
        c.due("a slip that moves none is made", x.clean(), 31);
    }

    // ---- 20 to 22

    private static void heard() {
        HandedSlips x = new HandedSlips();
        c.due("heard", x.heard(1, 54321), 1);
        c.due("the same again", x.heard(1, 54321), 2);
        c.due("heard 11", x.heard(11, 12345), 3);
        for (int wrong : new int[] {0, 12, -1, LOWEST, HIGHEST}) {
            c.bad(x, "heard " + wrong, () -> x.heard(wrong, 12345));
        }
        int[] wrongRows = {0, -12345, 1234, 123456, 12346, 12340, 11345, 12344, 22345, 112345, 102345, 12305, 54320, 1234512345,
            LOWEST, HIGHEST};
        for (int wrong : wrongRows) {
            c.bad(x, "heard 1 " + wrong, () -> x.heard(1, wrong));
        }
        c.due("a fourth", x.heard(5, 21435), 4);
        c.refused(x, "a fifth", FULL, () -> x.heard(5, 21435));
        c.bad(x, "a bad fifth", () -> x.heard(0, 21435));
        c.bad(x, "a bad row, too", () -> x.heard(5, 1));
        c.due("four", x.count(5), 4);
        x.tower(4);
        c.due("of four", x.heard(1, 4321), 1);
        c.bad(x, "five of four", () -> x.heard(1, 54321));
        c.bad(x, "a bell of four", () -> x.heard(1, 1235));
        x.tower(6);
        c.due("of six", x.heard(1, 654321), 1);
        c.bad(x, "five of six", () -> x.heard(1, 54321));
    }

    private static HandedSlips threeSlips() {
        HandedSlips x = new HandedSlips();
        x.slips(0, PLAIN, 3);
        x.slips(1, LATE, 3);
        x.slips(2, PLAIN, 5);
        return x;
    }

    private static void whoDue(String where, HandedSlips x, int many, int all, int some) {
        c.due(where + ": how many", x.who(0), many);
        c.due(where + ": in all", x.who(1), all);
        c.due(where + ": in some", x.who(2), some);
    }

    private static void who() {
        whoDue("no slips", new HandedSlips(), 1, 0, 0);
        HandedSlips x = threeSlips();
        whoDue("none heard", x, 8, 0, 7);
        x.heard(1, 12345);
        whoDue("what all ring", x, 8, 0, 7);
        x.heard(3, 21345);
        whoDue("the first alone in row 3", x, 2, 1, 5);
        x.heard(5, 12435);
        whoDue("the third, too", x, 1, 5, 5);
        x.heard(3, 12345);
        whoDue("two rows that do not fit", x, 0, NONE, 0);
        c.due("none is no refusal", x.status(0) + x.status(1), 0);
        HandedSlips y = threeSlips();
        for (int r = 0; r < 5; r++) {
            y.hands(r, LEARNER);
        }
        y.heard(3, 13245);
        whoDue("both, though none makes it now", y, 2, 3, 7);
        HandedSlips z = new HandedSlips();
        z.tower(6);
        for (int r = 0; r < 6; r++) {
            z.slips(r, DROPPED, 1);
        }
        whoDue("the most sets", z, 64, 0, 63);
        HandedSlips v = new HandedSlips();
        v.slips(4, PLAIN, 1);
        v.heard(1, 12345);
        whoDue("a slip that moves none", v, 2, 0, 16);
        for (int wrong : new int[] {-1, 3, LOWEST, HIGHEST}) {
            c.bad(v, "who " + wrong, () -> v.who(wrong));
        }
    }

    private static void tell() {
        HandedSlips x = threeSlips();
        c.due("row 3: four pairs", x.tell(), 3);
        x.heard(3, 21345);
        c.due("row 5 then", x.tell(), 5);
        HandedSlips z = new HandedSlips();
        z.slips(0, PLAIN, 11);
        z.heard(11, 21345);
        c.due("heard in the last row", z.who(1), 1);
        x.heard(5, 12345);
        c.due("one set: the least row", x.tell(), 1);
        x.heard(5, 21345);
        c.due("no set", x.tell(), NONE);
        c.due("none is no refusal", x.status(1), 0);
        HandedSlips y = new HandedSlips();
        c.due("no slips: the least row", y.tell(), 1);
        y.slips(0, PLAIN, 11);
        c.due("the last row", y.tell(), 11);
        y.slips(1, PLAIN, 7);
        c.due("of like ones the least", y.tell(), 7);
        y.hands(1, LEARNER);
        c.due("whoever makes it now", y.tell(), 7);
    }

    // ---- 23 to 29

    private static void note() {
        HandedSlips x = new HandedSlips();
        c.due("note", x.note(0, 1, 6), 1);
        c.due("of another", x.note(4, 6, 1), 2);
        for (int wrong : new int[] {-1, 5, LOWEST, HIGHEST}) {
            c.bad(x, "note " + wrong, () -> x.note(wrong, 1, 1));
        }
        for (int wrong : new int[] {0, 7, -1, LOWEST, HIGHEST}) {
            c.bad(x, "note 0 " + wrong + " 1", () -> x.note(0, wrong, 1));
            c.bad(x, "note 0 1 " + wrong, () -> x.note(0, 1, wrong));
        }
        for (int many = 3; many <= 6; many++) {
            c.due("note " + many, x.note(1, 2, 3), many);
        }
        c.refused(x, "a seventh", FULL, () -> x.note(1, 2, 3));
        c.bad(x, "a bad seventh", () -> x.note(5, 2, 3));
        c.bad(x, "another bad seventh", () -> x.note(1, 2, 7));
        c.due("six", x.count(6), 6);
        x.tower(4);
        c.due("of six bells also in a tower of four", x.note(3, 6, 6), 1);
        c.bad(x, "a rope of four", () -> x.note(4, 1, 1));
    }

    private static void mark() {
        HandedSlips x = new HandedSlips();
        c.due("mark", x.mark(0, 0, 0, 0), 1);
        c.due("of another", x.mark(4, 99, 99, 1), 2);
        for (int wrong : new int[] {-1, 5, LOWEST, HIGHEST}) {
            c.bad(x, "mark " + wrong, () -> x.mark(wrong, 0, 0, 0));
        }
        for (int wrong : new int[] {-1, 100, LOWEST, HIGHEST}) {
            c.bad(x, "mark 0 " + wrong, () -> x.mark(0, wrong, 0, 0));
            c.bad(x, "mark 0 0 " + wrong, () -> x.mark(0, 0, wrong, 0));
        }
        for (int wrong : new int[] {-1, 2, LOWEST, HIGHEST}) {
            c.bad(x, "mark 0 0 0 " + wrong, () -> x.mark(0, 0, 0, wrong));
        }
        for (int many = 3; many <= 6; many++) {
            c.due("mark " + many, x.mark(1, 2, 3, 1), many);
        }
        c.refused(x, "a seventh", FULL, () -> x.mark(1, 2, 3, 1));
        c.bad(x, "a bad seventh", () -> x.mark(1, 2, 3, 2));
        c.due("six", x.count(7), 6);
    }

    private static void forget() {
        HandedSlips x = new HandedSlips();
        for (int what = 0; what < 3; what++) {
            c.due("forget none " + what, x.forget(what), 0);
        }
        x.heard(3, 21345);
        for (int i = 0; i < 2; i++) {
            x.note(0, 1, 2);
        }
        for (int i = 0; i < 3; i++) {
            x.mark(0, 0, 0, 0);
        }
        c.bad(x, "forget -1", () -> x.forget(-1));
        c.bad(x, "forget 3", () -> x.forget(3));
        c.bad(x, "forget the highest", () -> x.forget(HIGHEST));
        c.due("no set", x.who(0), 0);
        c.due("forget heard", x.forget(0), 1);
        c.due("then", x.count(5), 0);
        c.due("a set", x.who(0), 1);
        c.due("notes stay", x.count(6), 2);
        c.due("plain", x.is(0), 1);
        c.due("forget notes", x.forget(1), 2);
        c.due("all kinds", x.is(0), 63);
        c.due("marks stay", x.count(7), 3);
        c.due("forget marks", x.forget(2), 3);
        c.due("all ringers", x.kinds(0), 63);
        c.due("none left", x.count(5) + x.count(6) + x.count(7), 0);
        c.due("heard anew", x.heard(3, 12345), 1);
    }

    private static int kindsBy(int... places) {
        HandedSlips x = new HandedSlips();
        for (int i = 0; i + 1 < places.length; i += 2) {
            x.note(2, places[i], places[i + 1]);
        }
        c.due("of another rope", x.is(1), 63);
        return x.is(2);
    }

    private static void is() {
        c.due("no notes", kindsBy(), 63);
        c.due("1 to 2", kindsBy(1, 2), 1);
        c.due("1 to 1", kindsBy(1, 1), 2 + 8);
        c.due("1 to 1, 2 to 1", kindsBy(1, 1, 2, 1), 2);
        c.due("1 to 3", kindsBy(1, 3), 4 + 32);
        c.due("1 to 6", kindsBy(1, 6), 16);
        c.due("6 to 6", kindsBy(6, 6), 1 + 4 + 8 + 32);
        c.due("6 to 6, 3 to 3", kindsBy(6, 6, 3, 3), 8);
        c.due("6 to 6, 5 to 6, 4 to 6", kindsBy(6, 6, 5, 6, 4, 6), 4 + 8 + 32);
        c.due("2 to 5", kindsBy(2, 5), 0);
        c.due("against itself", kindsBy(1, 2, 1, 3), 0);
        HandedSlips x = new HandedSlips();
        for (int wrong : new int[] {-1, 5, LOWEST, HIGHEST}) {
            c.bad(x, "is " + wrong, () -> x.is(wrong));
        }
        x.tower(4);
        x.note(3, 4, 5);
        c.due("of six bells also in a tower of four", x.is(3), 1);
    }

    private static int lookBy(int... places) {
        HandedSlips x = new HandedSlips();
        for (int i = 0; i + 1 < places.length; i += 2) {
            x.note(2, places[i], places[i + 1]);
        }
        c.due("none is no refusal", x.status(0) + x.status(1), 0);
        return x.look(2);
    }

    private static void look() {
        c.due("all kinds", lookBy(), 1);
        c.due("one kind", lookBy(1, 2), 1);
        c.due("early and dropped", lookBy(1, 1), 2);
        c.due("late and echo", lookBy(1, 3), 1);
        c.due("no kind", lookBy(2, 5), NONE);
        HandedSlips x = new HandedSlips();
        x.note(1, 2, 5);
        x.note(3, 1, 1);
        c.due("by its own notes", x.look(3), 2);
        c.due("by none", x.look(0), 1);
        c.due("by a wrong one", x.look(1), NONE);
        for (int wrong : new int[] {-1, 5, LOWEST, HIGHEST}) {
            c.bad(x, "look " + wrong, () -> x.look(wrong));
        }
    }

    private static HandedSlips marked(int... marks) {
        HandedSlips x = new HandedSlips();
        for (int i = 0; i + 2 < marks.length; i += 3) {
            x.mark(2, marks[i], marks[i + 1], marks[i + 2]);
        }
        c.due("of another ringer", x.kinds(1), 63);
        return x;
    }

    private static void kinds() {
        c.due("no marks", marked().kinds(2), 63);
        c.due("made at once", marked(0, 0, 1).kinds(2), 1 + 16);
        c.due("not made at once", marked(0, 0, 0).kinds(2), 2 + 4 + 8 + 32);
        c.due("two years", marked(2, 1, 1).kinds(2), 1 + 4 + 16);
        c.due("three years", marked(3, 1, 1).kinds(2), 1 + 2 + 4);
        c.due("eight years", marked(8, 1, 1).kinds(2), 1 + 2 + 4 + 16);
        c.due("nine years", marked(9, 1, 1).kinds(2), 1 + 2 + 4 + 8);
        c.due("an even year", marked(1, 2, 1).kinds(2), 1 + 4 + 32);
        c.due("a tenth year", marked(1, 90, 1).kinds(2), 1);
        c.due("proud or lent", marked(1, 2, 1, 0, 5, 0).kinds(2), 4 + 32);
        c.due("against itself", marked(1, 2, 1, 1, 2, 0).kinds(2), 0);
        c.due("the old one makes it", marked(99, 99, 0).kinds(2), 16 + 32);
        HandedSlips x = new HandedSlips();
        x.hands(0, STRANGER);
        c.due("by marks, not by who is there", x.kinds(0), 63);
        for (int wrong : new int[] {-1, 5, LOWEST, HIGHEST}) {
            c.bad(x, "kinds " + wrong, () -> x.kinds(wrong));
        }
    }

    private static void ask() {
        c.due("all kinds", marked().ask(2), 4);
        c.due("old or left hand", marked(0, 0, 1).ask(2), 1);
        c.due("four of them", marked(0, 0, 0).ask(2), 9);
        c.due("proud or lent", marked(1, 2, 1, 0, 5, 0).ask(2), 100);
        c.due("one kind", marked(1, 90, 1).ask(2), 0);
        c.due("no kind", marked(1, 2, 1, 1, 2, 0).ask(2), NONE);
        HandedSlips x = marked(1, 2, 1, 1, 2, 0);
        x.mark(0, 0, 0, 1);
        c.due("by his own marks", x.ask(0), 1);
        for (int wrong : new int[] {-1, 5, LOWEST, HIGHEST}) {
            c.bad(x, "ask " + wrong, () -> x.ask(wrong));
        }
    }

    // ---- 30 to 33

    private static void lends() {
        HandedSlips x = new HandedSlips();
        x.slips(0, PLAIN, 3);
        x.slips(1, PLAIN, 5);
        long before = x.digest();
        c.due("both keep", x.lends(0, 1), 1);
        c.due("both keep", x.lends(1, 0), 1);
        c.due("nothing is changed", x.digest(), before);
        HandedSlips y = new HandedSlips();
        y.slips(4, PLAIN, 3);
        y.slips(3, PLAIN, 5);
        // lent, bell 4 makes it in row 3 and moves bell 5: one row more, less 1
        c.due("a may lend as well", y.lends(4, 3), 1 + 2);
        c.due("b may lend as well", y.lends(3, 4), 1 + 4);
        for (int r = 0; r < 5; r++) {
            y.hands(r, LEARNER);
        }
        c.due("whatever their ringers", y.lends(4, 3), 1 + 2);
        c.due("whatever their ringers", y.lends(3, 4), 1 + 4);
        HandedSlips v = Towers.bells(6, 121212);
        v.slips(5, LATE, 11);
        v.slips(4, PLAIN, 1);
        // in row 11 bell 6 is the last, in row 1 bell 5: the own slip moves none, the other bell's moves them
        c.due("each pair rests", v.lends(5, 4), 1 + 2 + 4 + 8);
        HandedSlips z = new HandedSlips();
        z.slips(4, PLAIN, 3);
        z.slips(3, PLAIN, 3);
        // by ropes: bell 4's is made first. 0: bell 4 to 5, bell 5 back to 5: neither is elsewhere.
        // 1: bell 4 to 5 and stays: both are elsewhere. 2: bell 5 stays, twice: none. 3: bell 5 stays, bell 4 to 5.
        c.due("in one row", z.lends(4, 3), 1 + 2);
        y.slips(2, LATE, 3);
        c.refused(y, "one has none", NO, () -> y.lends(3, 1));
        c.refused(y, "the first has none", NO, () -> y.lends(1, 3));
        c.bad(y, "alike", () -> y.lends(3, 3));
        c.bad(y, "alike without one", () -> y.lends(1, 1));
        for (int wrong : new int[] {-1, 5, LOWEST, HIGHEST}) {
            c.bad(y, "lends " + wrong + " 3", () -> y.lends(wrong, 3));
            c.bad(y, "lends 3 " + wrong, () -> y.lends(3, wrong));
            c.bad(y, "a wrong rope, and one without a slip", () -> y.lends(1, wrong));
        }
    }

    private static void oddsDue(String where, HandedSlips x, int tenths, long above, long below) {
        c.due(where, x.odds(tenths), 1);
        fractionDue(where, x, above, below);
    }

    private static void odds() {
        HandedSlips x = new HandedSlips();
        oddsDue("rounds", x, 5, 0, 1);
        Towers.compose(x, 323232);
        oddsDue("true, no slips", x, 5, 1, 1);
        x.slips(1, PLAIN, 1);
        oddsDue("one, 3 of 10", x, 3, 3, 10);
        oddsDue("one, 5 of 10", x, 5, 1, 2);
        oddsDue("one, 0 of 10", x, 0, 0, 1);
        oddsDue("one, 10 of 10", x, 10, 1, 1);
        x.slips(2, PLAIN, 3);
        oddsDue("two, 3 of 10", x, 3, 9, 100);
        oddsDue("two, 4 of 10", x, 4, 4, 25);
        x.slips(4, EARLY, 9);
        oddsDue("a third that harms none", x, 4, 4, 25);
        x.hands(1, LEARNER);
        oddsDue("of those made now", x, 3, 3, 10);
        HandedSlips y = Towers.bells(5, 323232);
        y.slips(1, PLAIN, 11);
        y.slips(4, EARLY, 5);
        oddsDue("unless both are made", y, 3, 51, 100);
        oddsDue("unless both are made", y, 5, 3, 4);
        oddsDue("both are made", y, 0, 0, 1);
        for (int wrong : new int[] {-1, 11, LOWEST, HIGHEST}) {
            c.bad(y, "odds " + wrong, () -> y.odds(wrong));
        }
        fractionDue("behind bad ones", y, 0, 1);
        HandedSlips z = Towers.bells(6, 121212);
        for (int r = 0; r < 6; r++) {
            z.slips(r, LEFT, 1);
        }
        z.odds(7);
        c.holds("the lowest terms of six", 1000000 % z.part(1) == 0 && z.part(0) > 0 && z.part(0) < z.part(1));
    }

    private static void weddings() {
        HandedSlips x = new HandedSlips();
        x.slips(0, PLAIN, 3);
        x.hands(0, LEARNER);
        long before = x.digest();
        c.due("no year", x.weddings(0, 0), 0);
        // seed 0: X 12345 hands rope 0 to an old one, and the second year, 1406932606, rope 0 to a stranger
        c.due("one year", x.weddings(0, 1), 1);
        c.due("two years", x.weddings(0, 2), 1);
        // the third hands rope 4 to an old one, the fourth rope 1 to a proud one
        c.due("four years", x.weddings(0, 4), 1);
        c.due("nothing is changed", x.digest(), before);
        x.slips(4, EARLY, 9);
        // rope 4 is an old one's in each of them: one row each; rope 0's slip in the first
        c.due("two slips, four years", x.weddings(0, 4), 5);
        x.tower(4);
        x.slips(0, PLAIN, 3);
        x.slips(1, PLAIN, 5);
        // seed 7: rope 4 is not there, then rope 2, rope 2, rope 0 to a learner, rope 5 is not there, rope 5
        c.due("not there: none", x.weddings(7, 1), 2);
        c.due("four years", x.weddings(7, 4), 7);
        // the learner's 1 and 2 years: not made
        c.due("six years", x.weddings(7, 6), 9);
        HandedSlips y = new HandedSlips();
        y.slips(4, PLAIN, 3);
        y.slips(2, PLAIN, 3);
        y.slips(1, PLAIN, 7);
        y.hands(1, LEARNER);
        // rope 4 to a proud one, none in year 0, and rope 2's is made; rope 2 to a lent one, none in year 1
        c.due("the highest seed", y.weddings(999999, 1), 1);
        c.due("the highest seed, the second year", y.weddings(999999, 2), 1);
        for (int wrong : new int[] {-1, 1000000, LOWEST, HIGHEST}) {
            c.bad(x, "weddings " + wrong + " 1", () -> x.weddings(wrong, 1));
        }
        for (int wrong : new int[] {-1, 61, LOWEST, HIGHEST}) {
            c.bad(x, "weddings 0 " + wrong, () -> x.weddings(0, wrong));
        }
        weddingsFarOff();
    }

    private static void weddingsFarOff() {
        HandedSlips x = new HandedSlips();
        Towers.readText(x, "tower 4;slip 3 3 3;slip 1 0 1;" + "years 99;".repeat(10) + "years 9;");
        x.hands(1, PROUD);
        // seed 7, first rope 4, 2, 2, 0: rope 1 keeps its proud one, who makes it in 999, 1001, 1002, not in 1000
        c.due("years beyond 999", x.weddings(7, 4), 3);
    }

    private static void part() {
        HandedSlips x = Towers.filled();
        fractionDue("filled", x, 3, 10);
        for (int wrong : new int[] {-1, 2, LOWEST, HIGHEST}) {
            c.bad(x, "part " + wrong, () -> x.part(wrong));
        }
    }

    // ---- 34 to 38

    private static void images() {
        HandedSlips x = Towers.filled();
        c.refused(x, "from 0, never kept", NO, () -> x.from(0));
        long first = x.digest();
        c.due("image 0", x.image(0), 1);
        x.tower(4);
        x.slips(3, ECHO, 1);
        c.due("image 1", x.image(1), 1);
        long second = x.digest();
        c.due("from 0", x.from(0), 1);
        c.due("all is back", x.digest(), first);
        c.due("what may be undone is back", x.count(8), 4);
        c.due("undo the years", x.undo(), 0);
        c.due("undo a slip", x.undo(), 0);
        c.due("one slip", x.count(1), 1);
        c.due("from 1", x.from(1), 1);
        c.due("the other is back", x.digest(), second);
        c.due("undo in it", x.undo(), 0);
        c.due("from 0 once more", x.from(0), 1);
        c.due("an image is not changed by what goes on from it", x.digest(), first);
        x.odds(0);
        x.type('z');
        int badOnes = x.status(0);
        x.of(9, 9);
        x.from(0);
        c.due("the text is not in it", x.count(9), 3);
        fractionDue("nor the fraction", x, 0, 1);
        c.due("nor status", x.status(0), badOnes + 1);
        imageOfTheMost();
        for (int wrong : new int[] {-1, 2, LOWEST, HIGHEST}) {
            c.bad(x, "image " + wrong, () -> x.image(wrong));
            c.bad(x, "from " + wrong, () -> x.from(wrong));
        }
    }

    private static void imageOfTheMost() {
        HandedSlips x = Towers.bells(4, 123123);
        for (int i = 0; i < 9; i++) {
            x.slips(i % 4, i % 6, 1 + i);
        }
        for (int i = 1; i <= 6; i++) {
            x.note(i % 4, i, 7 - i);
            x.mark(i % 4, 9 * i, 11 * i, i % 2);
            x.heard(i, 4321);
        }
        long most = x.digest();
        x.image(0);
        x.tower(6);
        for (int i = 0; i < 8; i++) {
            x.hands(0, LENT);
        }
        x.from(0);
        c.due("the most of all is back", x.digest(), most);
        for (int i = 7; i >= 0; i--) {
            c.due("undo " + i, x.undo(), 0);
            c.due("row " + i, x.of(i % 4, 1), 1 + i);
        }
        c.due("the first slip alone is left", x.count(1), 1);
        c.refused(x, "undo a ninth", NO, x::undo);
    }

    private static void status() {
        HandedSlips x = new HandedSlips();
        x.of(9, 0);
        x.undo();
        x.drops(0);
        for (int i = 0; i < 7; i++) {
            x.note(0, 1, 1);
        }
        x.note(0, 1, 1);
        x.note(0, 1, 1);
        c.due("bad", x.status(0), 1);
        c.due("no", x.status(1), 2);
        c.due("full", x.status(2), 3);
        c.due("another what", x.status(3), -1);
        c.due("it counts as bad", x.status(0), 2);
        c.due("another what", x.status(-1), -1);
        c.due("another what", x.status(LOWEST), -1);
        c.due("another what", x.status(HIGHEST), -1);
        c.due("all count", x.status(0), 5);
        c.due("no as it was", x.status(1), 2);
        c.due("none is not counted", x.mend(), NONE);
        c.due("no as it was", x.status(1), 2);
    }

    private static void count() {
        HandedSlips x = Towers.filled();
        // made now, at three years: rope 2's alone (a left hand's three years are odd); one row is rung otherwise
        int[] told = {6, 2, 1, 3, 1, 1, 1, 1, 4, 2};
        for (int what = 0; what <= 9; what++) {
            c.due("count " + what, x.count(what), told[what]);
        }
        for (int wrong : new int[] {-1, 10, LOWEST, HIGHEST}) {
            c.bad(x, "count " + wrong, () -> x.count(wrong));
        }
        HandedSlips y = new HandedSlips();
        y.slips(0, DROPPED, 4);
        y.slips(4, PLAIN, 5);
        c.due("two are made", y.count(2), 2);
        c.due("and move none", y.count(4), 0);
        y.slips(3, PLAIN, 11);
        y.slips(1, PLAIN, 11);
        c.due("two in one row", y.count(4), 1);
        y.slips(3, PLAIN, 1);
        c.due("two rows", y.count(4), 2);
    }

    private static void digest() {
        HandedSlips x = Towers.filled();
        x.heard(7, 654321);
        x.note(5, 6, 4);
        x.mark(0, 99, 98, 0);
        long[] told = {
            6, 2, 1, 3, 1, 2, 2, 2, 4, 2,
            3, 2, 3, 2, 3, 2,
            -1, -1, 0, 3, ECHO, 1, LEFT_HAND, 3, PLAIN, 3, OLD, 3, -1, -1, 0, 3, -1, -1, 0, 3, -1, -1, 0, 3,
            1, 214365, 7, 654321,
            1, 1, 3, 5, 6, 4,
            2, 7, 8, 1, 0, 99, 98, 0,
            3, 10};
        c.due("digest", x.digest(), Towers.mixed(told));
        c.due("digest again", x.digest(), Towers.mixed(told));
        HandedSlips y = new HandedSlips();
        y.tower(4);
        long[] least = new long[10 + 6 + 16 + 2];
        Arrays.fill(least, 0);
        least[0] = 4;
        for (int r = 0; r < 4; r++) {
            least[16 + 4 * r] = -1;
            least[17 + 4 * r] = -1;
        }
        least[33] = 1;
        c.due("digest of four", y.digest(), Towers.mixed(least));
    }
}
