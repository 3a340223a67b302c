/** Promises 1 to 12: each sentence that names a boundary case, with a check of its own. */
public final class EdgeTowerTest {
    private static final int NONE = Towers.NONE, BAD = Towers.BAD, NO = Towers.NO, FULL = Towers.FULL;
    private static final int PLAIN = Towers.PLAIN, EARLY = Towers.EARLY, LATE = Towers.LATE;
    private static final int LEFT = Towers.LEFT, ECHO = Towers.ECHO;
    private static final int OLD = Towers.OLD, LEARNER = Towers.LEARNER, PROUD = Towers.PROUD, LENT = Towers.LENT;
    private static final int LOWEST = Towers.LOWEST, HIGHEST = Towers.HIGHEST;

    private static final Checks c = new Checks();

    public static void main(String[] args) {
        aNewObject();
        tower();
        towerEmpties();
        method();
        methodAndUndo();
        type();
        clear();
        readItems();
        readYears();
        readTokens();
        readFaults();
        readEndsTooEarly();
        readLeaves();
        slips();
        drops();
        hands();
        year();
        yearAtTheEnd();
        undo();
        undoWhat();
        of();
        made();
        c.covers(1, 12);
        c.end();
    }

    // ---- 1 and 2

    private static void aNewObject() {
        c.sentence(1, "(4, 5 or 6; 5 at first)");
        c.due("bells of a new one", new HandedSlips().count(0), 5);
        c.due("its fifth rope", new HandedSlips().of(4, 2), OLD);
        c.due("its sixth is not there", new HandedSlips().of(5, 2), BAD);
        c.sentence(1, "6 CHANGES of 0 .. 3 (0 at first)");
        for (int k = 0; k < 6; k++) {
            c.due("change " + k, new HandedSlips().method(k, 3), 0);
        }
        c.sentence(1, "ROPES have a SLIP or none (at first)");
        c.due("slips of a new one", new HandedSlips().count(1), 0);
        c.sentence(1, "a KIND (0 at first), YEARS with that rope (0 .. 99; 0 at first)");
        for (int r = 0; r < 5; r++) {
            c.due("kind of ringer " + r, new HandedSlips().of(r, 2), 0);
            c.due("years of ringer " + r, new HandedSlips().of(r, 3), 0);
        }
        c.sentence(1, "the TOWN's YEAR (0 at first, 999 at most)");
        c.due("the town's year", new HandedSlips().count(3), 0);
        c.sentence(1, "THE FRACTION is 0 by 1 at first");
        c.due("above", new HandedSlips().part(0), 0);
        c.due("below", new HandedSlips().part(1), 1);
        c.sentence(1, "As told; no SLIPS.");
        Towers.asAtFirst(c, "a new one", new HandedSlips(), 5);
        HandedSlips x = new HandedSlips();
        c.due("its text", x.count(9), 0);
        c.due("image 0", x.from(0), NO);
        c.due("image 1", x.from(1), NO);
        c.due("refused but for these two", x.status(0) + x.status(1) + x.status(2), 2);
    }

    private static void tower() {
        c.sentence(2, "BELLS 1 .. n (4, 5 or 6; 5 at first)");
        for (int n : new int[] {3, 7, 2, 0, -1, -5, LOWEST, HIGHEST}) {
            HandedSlips x = Towers.filled();
            c.bad(x, "tower " + n, () -> x.tower(n));
        }
        HandedSlips x = new HandedSlips();
        c.due("the least", x.tower(4), 5);
        c.due("four", x.row(0, 0), 1234);
        c.due("the most", x.tower(6), 4);
        c.due("six", x.row(0, 0), 123456);
        c.due("five", x.tower(5), 6);
        c.sentence(2, "STATUS): how many there were.");
        c.due("the same again", x.tower(5), 5);
        c.due("how many there were, behind a refused one", x.tower(7) == BAD ? x.tower(4) : 0, 5);
    }

    private static void towerEmpties() {
        c.sentence(2, "all else as at first (but for IMAGES, THE TEXT, THE FRACTION, STATUS)");
        for (int n = 4; n <= 6; n++) {
            HandedSlips x = Towers.filled();
            x.tower(n);
            c.due("nothing may be undone", x.undo(), NO);
            Towers.asAtFirst(c, "a filled one of six, tower " + n, x, n);
            c.due("the text", x.count(9), 2);
            c.due("the fraction", x.part(0), 3);
            c.due("the fraction", x.part(1), 10);
            c.due("status: one was bad, one is of a rope not there", x.status(0), 2);
            c.due("status: the undo", x.status(1), 1);
            c.due("the image", x.from(1), 1);
            c.due("its bells", x.count(0), 6);
        }
    }

    // ---- 3 to 5

    private static void method() {
        c.sentence(3, "The k-th CHANGE of THE METHOD (k 0 .. 5): what it was.");
        for (int k : new int[] {-1, 6, LOWEST, HIGHEST}) {
            HandedSlips x = Towers.filled();
            c.bad(x, "method " + k + " 0", () -> x.method(k, 0));
        }
        HandedSlips x = new HandedSlips();
        c.due("the first", x.method(0, 1), 0);
        c.due("the first again", x.method(0, 2), 1);
        c.due("the last", x.method(5, 1), 0);
        c.due("the last again", x.method(5, 0), 1);
        c.due("the first is what it was", x.method(0, 2), 2);
        c.sentence(3, "6 CHANGES of 0 .. 3");
        for (int change : new int[] {-1, 4, LOWEST, HIGHEST}) {
            c.bad(x, "method 0 " + change, () -> x.method(0, change));
        }
        c.due("the highest", x.method(0, 3), 2);
        c.due("the least", x.method(0, 0), 3);
        c.due("the least was told", x.method(0, 1), 0);
        c.sentence(3, "Refused, changing nothing but STATUS, the first of: BAD -2 a number is not as told");
        c.bad(x, "both not as told, counted once", () -> x.method(6, 4));
    }

    private static void methodAndUndo() {
        c.sentence(3, "behind a METHOD told none may be");
        HandedSlips x = Towers.filled();
        c.bad(x, "a refused one", () -> x.method(0, 4));
        c.due("what may be undone stays behind it", x.count(8), 4);
        x.method(5, 1);
        c.due("none may be", x.count(8), 0);
        c.refused(x, "undo", NO, x::undo);
        x.drops(1);
        c.due("what comes behind it may be", x.count(8), 1);
        x.method(5, 1);
        c.due("the same change told again", x.count(8), 0);
    }

    private static void type() {
        c.sentence(4, "A byte (0 .. 127) comes behind THE TEXT: how many it has.");
        HandedSlips x = new HandedSlips();
        for (int code : new int[] {-1, 128, 256, LOWEST, HIGHEST}) {
            c.bad(x, "type " + code, () -> x.type(code));
        }
        c.due("the least", x.type(0), 1);
        c.due("the highest", x.type(127), 2);
        c.sentence(4, "(150 bytes at most)");
        for (int many = 3; many < 150; many++) {
            x.type(' ');
        }
        c.due("the 150th", x.type(';'), 150);
        c.refused(x, "the 151st", FULL, () -> x.type(';'));
        c.sentence(4, "the first of: BAD -2 a number is not as told; NO -3 as told; FULL -4");
        c.bad(x, "a bad 151st", () -> x.type(128));
        c.due("a byte the less is none the less full", x.type(0), FULL);
        c.sentence(4, "BAD; FULL.");
        HandedSlips y = new HandedSlips();
        Towers.typeAll(y, "tower 5;" + " ".repeat(142));
        c.refused(y, "one that would be a fault", FULL, () -> y.type('?'));
        c.due("it is not in the text", y.read(), 1);
    }

    private static void clear() {
        c.sentence(5, "THE TEXT is empty: how many it had.");
        HandedSlips x = new HandedSlips();
        c.due("an empty one", x.clear(), 0);
        Towers.typeAll(x, "x".repeat(150));
        c.due("a full one", x.clear(), 150);
        c.due("it is empty", x.count(9), 0);
        c.due("cleared twice", x.clear(), 0);
        c.due("there is room again", x.type('t'), 1);
        Towers.typeAll(x, "ower 4;");
        c.due("none of the bytes that were is left", x.read(), 1);
    }

    // ---- 6

    private static void reads(String text, int items) {
        HandedSlips x = Towers.filled();
        c.due("read '" + text + "'", Towers.readText(x, text), items);
    }

    private static void fault(String text, int place) {
        HandedSlips x = Towers.filled();
        x.clear();
        Towers.typeAll(x, text);
        c.answers(x, "read '" + text + "'", -10 - place, x::read);
        c.due("the image stays", x.from(1), 1);
    }

    private static void readItems() {
        c.sentence(6, "tower n (once, first of all)");
        reads("tower 4;", 1);
        reads("tower 5;", 1);
        reads("tower 6;", 1);
        fault("tower 3;", 6);
        fault("tower 7;", 6);
        fault("tower 0;", 6);
        fault("tower 45;", 6);
        c.sentence(6, "method and 6 CHANGES");
        reads("tower 5;method 0 1 2 3 0 1;", 2);
        fault("tower 5;method 4 0 0 0 0 0;", 15);
        fault("tower 5;method 0 0 0 0 0 4;", 25);
        fault("tower 5;method 0 0 0 0 0;", 24);
        fault("tower 5;method 0 0 0 0 0 0 0;", 27);
        fault("tower 5;method;", 14);
        c.sentence(6, "slip r KIND ROW");
        reads("tower 4;slip 3 5 11;slip 0 0 1;", 3);
        reads("tower 6;slip 5 5 11;", 2);
        fault("tower 4;slip 3 6 11;", 15);
        fault("tower 4;slip 3 5 12;", 17);
        fault("tower 4;slip 0 0 0;", 17);
        fault("tower 4;slip 0 0;", 16);
        fault("tower 4;slip 0 0 1 1;", 19);
        c.sentence(6, "ringer r KIND y");
        reads("tower 4;ringer 3 5 99;ringer 0 0 0;", 3);
        fault("tower 4;ringer 3 6 9;", 17);
        fault("tower 4;ringer 3 5;", 18);
        fault("tower 4;ringer 3 5 9 9;", 21);
        c.sentence(6, "-10 less the FAULT: all stays.");
        fault("tower 4;method 3 3 3 3 3 3;slip 0 0 1;ringer 0 1 5;years 7;slip 4 0 1;", 64);
        c.sentence(6, "THE TOWER is read: how many ITEMS.");
        reads("tower 4;" + "years 1;".repeat(16), 17);
        reads("tower4;" + "years1;".repeat(20), 21);
    }

    private static void readYears() {
        c.sentence(6, "years n (1 .. 99:");
        fault("tower 5;years 0;", 14);
        fault("tower 5;years 00;", 14);
        fault("tower 5;years 100;", 14);
        c.due("one", Towers.told("tower 5;years 1;").count(3), 1);
        c.due("99", Towers.told("tower 5;years 99;").count(3), 99);
        c.sentence(6, "so many YEARS go by, where it stands;");
        HandedSlips x = Towers.told("tower 5;ringer 0 1 4;years 3;ringer 1 1 4;");
        c.due("told ahead of them", x.of(0, 3), 7);
        c.due("told behind them", x.of(1, 3), 4);
        c.due("not told", x.of(2, 3), 3);
        c.sentence(6, "at 999 none does)");
        String until998 = "tower 5;" + "years 99;".repeat(10) + "years 8;";
        HandedSlips y = Towers.told(until998 + "ringer 2 0 1;years 99;ringer 3 0 1;years 9;");
        c.due("the town's year", y.count(3), 999);
        c.due("one went by from 998", y.of(2, 3), 2);
        c.due("none at 999", y.of(3, 3), 1);
        c.due("nothing to undo", y.count(8), 0);
        c.sentence(6, "YEARS of each RINGER are one more (99 at most)");
        c.due("98 and 2", Towers.told("tower 5;ringer 2 0 98;years 2;").of(2, 3), 99);
        c.due("0 and 99", Towers.told("tower 5;years 99;").of(2, 3), 99);
        c.due("0 and 100", Towers.told("tower 5;years 99;years 1;").of(2, 3), 99);
    }

    private static void readTokens() {
        c.sentence(6, "figures (1 or 2 are one number)");
        reads("tower 05;slip 00 01 09;", 2);
        c.due("two are one number", Towers.told("tower 5;slip 1 2 11;").of(1, 1), 11);
        c.due("with a nought", Towers.told("tower 5;slip 1 2 07;").of(1, 1), 7);
        c.due("with a blank they are two", Towers.readText(new HandedSlips(), "tower 5;slip 1 2 1 1;"), -29);
        fault("tower 5;slip 12 1;", 13);
        c.sentence(6, "(a KIND is told as its number)");
        fault("tower 5;slip 0 early 1;", 15);
        fault("tower 5;ringer 0 old 1;", 17);
        c.sentence(6, "blanks (32), any number, ahead of, between and behind TOKENS");
        reads("   tower   5   ;   slip   0   0   1   ;   ", 2);
        reads(" ".repeat(142) + "tower 5;", 1);
        reads("tower 5;" + " ".repeat(142), 1);
        reads("tower" + " ".repeat(143) + "5;", 1);
        fault("tower\t5;", 5);
        fault("tower 5;\n", 8);
        c.sentence(6, "(needed only between two words, two numbers)");
        reads("tower5;method0 1 2 3 0 1;slip0 0 1;ringer0 0 1;years1;", 5);
        fault("tower 5;method 012301;", 15);
        fault("tower 5;slipslip 0 0 1;", 8);
        fault("tower 5;slip slip 0 0 1;", 13);
        c.sentence(6, "each ended by ;");
        fault("tower 5 slip 0 0 1;", 8);
        fault("tower 5;;", 8);
        fault("tower 5: slip 0 0 1;", 7);
    }

    private static void readFaults() {
        c.sentence(6, "FAULT: the place of the first byte of the first TOKEN that can not stand there");
        fault("tower 9;zzz", 6);
        fault("tower 5;slip 5 6 12;", 13);
        fault("tower 5;slip 0 6 12;", 15);
        fault("tower 5;years 1 1;zzz", 16);
        fault("  ; tower", 2);
        c.sentence(6, "a word that is none");
        fault("towe 5;", 0);
        fault("xower 5;", 0);
        fault("towex 5;", 0);
        fault("towers 5;", 0);
        fault("tower 5;metho 1 1 1 1 1 1;", 8);
        fault("tower 5;slips 0 0 1;", 8);
        fault("tower 5;ring 0 0 1;", 8);
        fault("tower 5;year 1;", 8);
        fault("tower 5; a", 9);
        c.sentence(6, "tower again");
        fault("tower 5;tower 5;", 8);
        fault("tower 5;slip 0 0 1; tower", 20);
        fault("tower tower 5;", 6);
        c.sentence(6, "anything ahead of it");
        fault("slip 0 0 1;tower 5;", 0);
        fault("method 1 1 1 1 1 1;tower 5;", 0);
        fault("ringer 0 0 1;tower 5;", 0);
        fault("  years 1;tower 5;", 2);
        fault(";tower 5;", 0);
        fault("5 tower 5;", 0);
        c.sentence(6, "a run of three figures or more (at its first one)");
        fault("tower 005;", 6);
        fault("tower 5555", 6);
        fault("tower 5;ringer 0 0 100;", 19);
        fault("tower 5;years  001;", 15);
        fault("tower 5;123;", 8);
        fault("tower 5;years " + "1".repeat(136), 14);
        c.sentence(6, "a number not as told");
        fault("tower 9;", 6);
        fault("tower 5;method 1 1 1 9 1 1;", 21);
        fault("tower five;", 6);
        fault("tower 5;slip 0 1 x;", 17);
        fault("tower ;", 6);
        c.sentence(6, "also a ROPE that is not there");
        fault("tower 4;slip 4 0 1;", 13);
        fault("tower 5;slip 5 0 1;", 13);
        fault("tower 6;slip 6 0 1;", 13);
        fault("tower 4;ringer 4 0 1;", 15);
        fault("tower 6;ringer 6 0 1;", 15);
        c.sentence(6, "a byte that begins none, too");
        fault("Tower 5;", 0);
        fault("tower -5;", 6);
        fault("tower 5.;", 7);
        fault("tower 5;" + (char) 0, 8);
        fault("tower 5;" + (char) 127, 8);
        fault("tower 5;`", 8);
        fault("tower 5;{", 8);
        fault("tower 5;/", 8);
        fault("tower 5;:", 8);
        fault("tower 5;years 1A;", 15);
        fault("tower 5;years 1/;", 15);
    }

    private static void readEndsTooEarly() {
        c.sentence(6, "the TEXT's length, if it ends too early (an empty one, too)");
        fault("", 0);
        fault(" ", 1);
        fault(" ".repeat(150), 150);
        fault("tower", 5);
        fault("tower  ", 7);
        fault("tower 5", 7);
        fault("tower 5 ", 8);
        fault("tower 5;method", 14);
        fault("tower 5;method 1 2 3 1 2", 24);
        fault("tower 5;method 1 2 3 1 2 3", 26);
        fault("tower 5;slip 0", 14);
        fault("tower 5;slip 0 0 1", 18);
        fault("tower 5;ringer 0 0 ", 19);
        fault("tower 5;years", 13);
        fault("tower 5;years 1" + " ".repeat(135), 150);
    }

    private static void readLeaves() {
        c.sentence(6, "A TOWER that is read takes the place of all but IMAGES, THE TEXT, THE FRACTION, STATUS");
        HandedSlips x = Towers.filled();
        c.due("read", Towers.readText(x, "tower 6;"), 1);
        c.due("the text", x.count(9), 8);
        c.due("the fraction", x.part(0), 3);
        c.due("the fraction", x.part(1), 10);
        c.due("status", x.status(0), 1);
        c.due("image 0, never kept", x.from(0), NO);
        Towers.asAtFirst(c, "read into a filled one", x, 6);
        c.due("image 1", x.from(1), 1);
        c.due("its slips", x.count(1), 2);
        c.due("the same text read again", x.read(), 1);
        c.due("its slips are gone again", x.count(1), 0);
        c.sentence(6, "(HEARD ones, NOTES, MARKS none; nothing to undo)");
        HandedSlips y = Towers.filled();
        Towers.readText(y, "tower 6;slip 0 0 1;years 3;");
        for (int what = 5; what <= 8; what++) {
            c.due("count " + what, y.count(what), 0);
        }
        c.refused(y, "undo", NO, y::undo);
    }

    // ---- 7 to 9

    private static void slips() {
        c.sentence(7, "A SLIP is put on a ROPE (in place of one): whether it had one.");
        for (int n = 4; n <= 6; n++) {
            HandedSlips x = Towers.bells(n, 0);
            int beyond = n;
            c.bad(x, "the rope beyond " + n, () -> x.slips(beyond, PLAIN, 1));
            c.bad(x, "rope -1", () -> x.slips(-1, PLAIN, 1));
            c.bad(x, "the lowest rope", () -> x.slips(LOWEST, PLAIN, 1));
            c.bad(x, "the highest rope", () -> x.slips(HIGHEST, PLAIN, 1));
            c.due("the last rope had none", x.slips(n - 1, PLAIN, 1), 0);
            c.due("it had one", x.slips(n - 1, PLAIN, 1), 1);
            c.due("the first had none", x.slips(0, PLAIN, 1), 0);
            x.drops(0);
            c.due("it has none again", x.slips(0, PLAIN, 1), 0);
        }
        HandedSlips x = new HandedSlips();
        x.slips(2, LATE, 4);
        x.slips(2, LEFT, 6);
        c.due("in place of one", x.count(1), 1);
        c.due("the later kind", x.of(2, 0), LEFT);
        c.due("the later row", x.of(2, 1), 6);
        c.sentence(7, "a KIND, a ROW (1 .. 11)");
        for (int row : new int[] {0, 12, -1, LOWEST, HIGHEST}) {
            c.bad(x, "row " + row, () -> x.slips(1, PLAIN, row));
        }
        c.due("the first row", x.slips(1, PLAIN, 1), 0);
        c.due("the last row", x.slips(3, PLAIN, 11), 0);
        c.sentence(7, "KINDS of SLIPS, each under the one told");
        for (int kind : new int[] {-1, 6, LOWEST, HIGHEST}) {
            c.bad(x, "kind " + kind, () -> x.slips(0, kind, 1));
        }
        c.due("the first kind", x.slips(0, PLAIN, 2), 0);
        c.due("the last kind", x.slips(4, ECHO, 2), 0);
        c.sentence(7, "changing nothing but STATUS");
        c.bad(x, "a bad row on a rope that has one", () -> x.slips(2, EARLY, 12));
        c.bad(x, "all three not as told, counted once", () -> x.slips(5, 6, 0));
    }

    private static void drops() {
        c.sentence(8, "The SLIP of a ROPE is taken: its KIND.");
        HandedSlips x = new HandedSlips();
        x.slips(0, PLAIN, 1);
        x.slips(4, ECHO, 11);
        for (int r : new int[] {-1, 5, LOWEST, HIGHEST}) {
            c.bad(x, "rope " + r, () -> x.drops(r));
        }
        c.due("the first rope's, the first kind", x.drops(0), PLAIN);
        c.due("the last rope's, the last kind", x.drops(4), ECHO);
        c.due("no kind", x.of(4, 0), NONE);
        c.due("no row", x.of(4, 1), NONE);
        c.sentence(8, "BAD; NO: it has none.");
        c.refused(x, "taken twice", NO, () -> x.drops(0));
        c.refused(x, "never put", NO, () -> x.drops(2));
        x.tower(4);
        c.bad(x, "not there: bad ahead of none", () -> x.drops(4));
        c.sentence(8, "its SLIP stays. A SLIP may be put, or taken from it.");
        x.slips(3, LATE, 2);
        x.hands(3, LENT);
        x.year(4);
        c.due("put ahead of handing on", x.drops(3), LATE);
        c.due("the ringer stays", x.of(3, 2), LENT);
        c.due("his years stay", x.of(3, 3), 4);
    }

    private static void hands() {
        c.sentence(9, "HANDED ON: YEARS of the one who was there.");
        HandedSlips x = new HandedSlips();
        c.due("at once", x.hands(0, LEARNER), 0);
        x.year(60);
        c.due("60 years", x.hands(0, LEARNER), 60);
        x.year(60);
        c.due("99 at most", x.hands(4, LEARNER), 99);
        c.due("the other's 60", x.hands(0, LEARNER), 60);
        for (int r : new int[] {-1, 5, LOWEST, HIGHEST}) {
            c.bad(x, "rope " + r, () -> x.hands(r, OLD));
        }
        for (int kind : new int[] {-1, 6, LOWEST, HIGHEST}) {
            c.bad(x, "kind " + kind, () -> x.hands(1, kind));
        }
        c.bad(x, "both not as told, counted once", () -> x.hands(5, 6));
        c.sentence(9, "HANDED ON: a ROPE has a RINGER of a KIND, YEARS 0; its SLIP stays.");
        x.slips(2, ECHO, 11);
        x.hands(2, OLD);
        c.due("the first kind", x.of(2, 2), OLD);
        x.year(5);
        x.hands(2, LENT);
        c.due("the last kind", x.of(2, 2), LENT);
        c.due("no years", x.of(2, 3), 0);
        c.due("the slip's kind", x.of(2, 0), ECHO);
        c.due("the slip's row", x.of(2, 1), 11);
        c.due("another's years", x.of(3, 3), 99);
        x.year(2);
        c.due("the same kind again", x.hands(2, LENT), 2);
        c.due("no years again", x.of(2, 3), 0);
    }

    // ---- 10

    private static void year() {
        c.sentence(10, "n YEARS go by (1 .. 60;");
        HandedSlips x = new HandedSlips();
        for (int n : new int[] {0, 61, -1, LOWEST, HIGHEST}) {
            c.bad(x, "year " + n, () -> x.year(n));
        }
        x.year(1);
        c.due("one", x.count(3), 1);
        x.year(60);
        c.due("sixty more", x.count(3), 61);
        c.sentence(10, "together one that may be undone");
        c.due("two calls", x.count(8), 2);
        c.due("sixty at once", x.undo(), 1);
        c.due("a ringer's sixty, too", x.of(3, 3), 1);
        c.sentence(10, "YEARS of each RINGER are one more (99 at most)");
        x.year(60);
        x.year(37);
        c.due("98", x.of(0, 3), 98);
        x.year(1);
        c.due("99", x.of(0, 3), 99);
        x.year(1);
        c.due("99 still", x.of(4, 3), 99);
        c.due("the town's are 100", x.count(3), 100);
        c.sentence(10, "TRUE: no two ROWS of 0 .. 11 that are RUNG are alike.");
        HandedSlips z = Towers.bells(4, 121213);
        c.due("no two", z.year(1), 1);
        z.slips(3, PLAIN, 11);
        // 1243 comes to 1234
        c.due("rows 0 and 11", z.year(1), 0);
        c.due("rows 0 and 1", Towers.bells(5, 23232).year(1), 0);
        HandedSlips last = Towers.bells(5, 323232);
        last.slips(2, EARLY, 11);
        c.due("rows 10 and 11", last.year(1), 0);
        c.sentence(10, "1 if it is TRUE then, 0.");
        HandedSlips y = Towers.bells(5, 323232);
        y.slips(1, PLAIN, 1);
        y.hands(1, LEARNER);
        c.due("two years of a learner", y.year(2), 1);
        c.due("three: it is the rows of then that count", y.year(1), 0);
        y.hands(1, PROUD);
        c.due("year 4", y.year(1), 0);
        c.due("year 5", y.year(1), 1);
        c.due("year 15, ten at once", y.year(10), 1);
        c.due("year 16", y.year(1), 0);
    }

    private static void yearAtTheEnd() {
        c.sentence(10, "at 999 none goes by)");
        HandedSlips x = Towers.told("tower 5;" + "years 99;".repeat(10) + "years 8;");
        x.hands(0, LEARNER);
        x.year(60);
        c.due("999", x.count(3), 999);
        c.due("one went by", x.of(0, 3), 1);
        x.year(60);
        c.due("999 still", x.count(3), 999);
        c.due("none went by", x.of(0, 3), 1);
        c.sentence(10, "also if none goes by;");
        c.due("three may be undone", x.count(8), 3);
        c.due("the one of none", x.undo(), 999);
        c.due("his years", x.of(0, 3), 1);
        c.due("the one of one", x.undo(), 998);
        c.due("his years then", x.of(0, 3), 0);
        c.sentence(10, "(0 at first, 999 at most)");
        c.due("998 and 1", x.year(1) + x.count(3), 999);
        c.due("and 1 more", x.year(1) + x.count(3), 999);
    }

    // ---- 11

    private static void undo() {
        c.sentence(11, "NO: none may be.");
        HandedSlips x = new HandedSlips();
        c.refused(x, "a new one", NO, x::undo);
        x.slips(0, PLAIN, 1);
        x.undo();
        c.refused(x, "one put, two undone", NO, x::undo);
        c.sentence(11, "(8 at most;");
        for (int row = 1; row <= 8; row++) {
            x.slips(0, PLAIN, row);
        }
        c.due("eight", x.count(8), 8);
        x.slips(0, PLAIN, 9);
        c.due("the ninth: eight still", x.count(8), 8);
        for (int row = 8; row >= 1; row--) {
            x.undo();
            c.due("back to row " + row, x.of(0, 1), row);
        }
        c.refused(x, "the ninth back is lost", NO, x::undo);
        c.sentence(11, "behind a METHOD told none may be");
        x.slips(0, PLAIN, 2);
        x.method(3, 3);
        c.refused(x, "behind a method", NO, x::undo);
        c.sentence(11, "nothing to undo");
        x.slips(0, PLAIN, 2);
        Towers.readText(x, "tower 4;slip 0 0 1;years 2;");
        c.refused(x, "behind a tower that is read", NO, x::undo);
        x.slips(0, PLAIN, 2);
        x.tower(4);
        c.refused(x, "behind a tower told", NO, x::undo);
        c.sentence(11, "Refused, changing nothing but STATUS");
        x.slips(9, PLAIN, 2);
        x.drops(1);
        x.hands(0, 6);
        x.year(61);
        c.refused(x, "behind refused ones", NO, x::undo);
        c.sentence(11, "UNDO: the TOWN's YEAR then.");
        x.year(7);
        x.year(5);
        c.due("twelve less five", x.undo(), 7);
        c.due("then none", x.undo(), 0);
    }

    private static void undoWhat() {
        c.sentence(11, "as ahead of the last YEARS gone by, handing on, SLIP put, taken");
        HandedSlips x = Towers.bells(5, 323232);
        x.slips(3, LATE, 4);
        x.hands(3, PROUD);
        x.year(6);
        long before = x.digest();
        x.year(60);
        x.undo();
        c.due("years", x.digest(), before);
        x.hands(3, LENT);
        x.undo();
        c.due("handing on", x.digest(), before);
        x.slips(3, ECHO, 5);
        x.undo();
        c.due("a slip put in place of one", x.digest(), before);
        x.slips(2, ECHO, 5);
        x.undo();
        c.due("a slip put where none was", x.digest(), before);
        x.drops(3);
        x.undo();
        c.due("a slip taken", x.digest(), before);
        c.sentence(11, "SLIPS, RINGERS, their YEARS, the TOWN's YEAR as ahead");
        x.drops(3);
        x.heard(1, 12345);
        x.note(0, 1, 1);
        x.mark(0, 1, 1, 1);
        x.odds(0);
        x.type('x');
        x.image(0);
        x.undo();
        c.due("heard ones stay", x.count(5), 1);
        c.due("notes stay", x.count(6), 1);
        c.due("marks stay", x.count(7), 1);
        c.due("the text stays", x.count(9), 1);
        c.due("the fraction stays", x.part(0), 1);
        c.due("the method stays", x.method(0, 3), 3);
        c.due("an image stays", x.from(0), 1);
    }

    // ---- 12

    private static void of() {
        c.sentence(12, "KIND of its SLIP (0; NONE), its ROW (1; NONE)");
        HandedSlips x = new HandedSlips();
        c.answers(x, "no kind", NONE, () -> x.of(0, 0));
        c.answers(x, "no row", NONE, () -> x.of(0, 1));
        x.slips(0, PLAIN, 1);
        x.slips(4, ECHO, 11);
        c.due("the first kind", x.of(0, 0), PLAIN);
        c.due("the first row", x.of(0, 1), 1);
        c.due("the last kind", x.of(4, 0), ECHO);
        c.due("the last row", x.of(4, 1), 11);
        c.sentence(12, "Of a ROPE:");
        for (int n = 4; n <= 6; n++) {
            HandedSlips y = Towers.bells(n, 0);
            int beyond = n;
            c.bad(y, "rope " + n + " of " + n, () -> y.of(beyond, 0));
            c.due("the last rope", y.of(n - 1, 3), 0);
        }
        for (int r : new int[] {-1, LOWEST, HIGHEST}) {
            c.bad(x, "rope " + r, () -> x.of(r, 0));
        }
        c.sentence(12, "whether the SLIP is made now (4; 1, 0). BAD.");
        for (int what : new int[] {-1, 5, LOWEST, HIGHEST}) {
            c.bad(x, "of 0 " + what, () -> x.of(0, what));
        }
        c.due("it is", x.of(0, 4), 1);
        c.answers(x, "there is none", 0, () -> x.of(1, 4));
        x.hands(0, LEARNER);
        c.answers(x, "it is not", 0, () -> x.of(0, 4));
    }

    /** Whether a ringer of the kind with these years makes his slip in this year of the town. */
    private static int madeBy(int kind, int years, int townYear) {
        StringBuilder text = new StringBuilder("tower 5;slip 1 0 1;");
        int rest = townYear;
        while (rest > 0) {
            text.append("years ").append(Math.min(rest, 99)).append(';');
            rest -= Math.min(rest, 99);
        }
        HandedSlips x = Towers.told(text + "ringer 1 " + kind + " " + years + ";");
        c.due("the town's year", x.count(3), townYear);
        return x.of(1, 4);
    }

    private static void made() {
        c.sentence(12, "0 OLD: always.");
        c.due("no years, year 0", madeBy(OLD, 0, 0), 1);
        c.due("99 years, year 999", madeBy(OLD, 99, 999), 1);
        c.sentence(12, "as OLD, if y is 3 or more.");
        c.due("2 years", madeBy(LEARNER, 2, 1), 0);
        c.due("3 years", madeBy(LEARNER, 3, 1), 1);
        c.due("99 years", madeBy(LEARNER, 99, 5), 1);
        c.sentence(12, "as OLD, but not in YEARS t that 5 divides.");
        c.due("year 0", madeBy(PROUD, 9, 0), 0);
        c.due("year 1", madeBy(PROUD, 0, 1), 1);
        c.due("year 4", madeBy(PROUD, 9, 4), 1);
        c.due("year 5", madeBy(PROUD, 9, 5), 0);
        c.due("year 6", madeBy(PROUD, 5, 6), 1);
        c.due("year 995", madeBy(PROUD, 9, 995), 0);
        c.due("year 999", madeBy(PROUD, 9, 999), 1);
        c.sentence(12, "never, unless y is 9 or more and LEARNER does.");
        c.due("8 years", madeBy(Towers.STRANGER, 8, 1), 0);
        c.due("9 years", madeBy(Towers.STRANGER, 9, 1), 1);
        c.due("3 years", madeBy(Towers.STRANGER, 3, 1), 0);
        c.due("10 years, year 10", madeBy(Towers.STRANGER, 10, 10), 1);
        c.sentence(12, "as OLD, but not if y is an odd number.");
        c.due("no years", madeBy(Towers.LEFT_HAND, 0, 1), 1);
        c.due("1 year", madeBy(Towers.LEFT_HAND, 1, 2), 0);
        c.due("2 years", madeBy(Towers.LEFT_HAND, 2, 5), 1);
        c.due("98 years", madeBy(Towers.LEFT_HAND, 98, 3), 1);
        c.due("99 years", madeBy(Towers.LEFT_HAND, 99, 4), 0);
        c.sentence(12, "as PROUD, if t is an even number.");
        c.due("year 0", madeBy(LENT, 1, 0), 0);
        c.due("year 1", madeBy(LENT, 2, 1), 0);
        c.due("year 2", madeBy(LENT, 1, 2), 1);
        c.due("year 5", madeBy(LENT, 1, 5), 0);
        c.due("year 10", madeBy(LENT, 1, 10), 0);
        c.due("year 12", madeBy(LENT, 0, 12), 1);
    }
}
