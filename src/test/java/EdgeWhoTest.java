import java.util.function.ToIntBiFunction;

/** Promises 20 to 33: each sentence that names a boundary case, with a check of its own. */
public final class EdgeWhoTest {
    private static final int NONE = Towers.NONE, NO = Towers.NO, FULL = Towers.FULL;
    private static final int PLAIN = Towers.PLAIN, EARLY = Towers.EARLY, LATE = Towers.LATE;
    private static final int DROPPED = Towers.DROPPED, LEFT = Towers.LEFT, ECHO = Towers.ECHO;
    private static final int OLD = Towers.OLD, LEARNER = Towers.LEARNER, PROUD = Towers.PROUD, LEFT_HAND = Towers.LEFT_HAND;
    private static final int LOWEST = Towers.LOWEST, HIGHEST = Towers.HIGHEST;

    private static final Checks c = new Checks();

    public static void main(String[] args) {
        heard();
        heardFull();
        who();
        tell();
        note();
        mark();
        forget();
        is();
        look();
        kinds();
        ask();
        lends();
        lendsOrNot();
        lendsByRopes();
        odds();
        oddsLowest();
        weddings();
        weddingsLeftOver();
        weddingsYears();
        part();
        c.covers(20, 33);
        c.end();
    }

    // ---- 20

    private static void heard() {
        c.sentence(20, "in ROW r (1 .. 11) it was RUNG so");
        HandedSlips x = new HandedSlips();
        for (int r : new int[] {0, 12, -1, LOWEST, HIGHEST}) {
            c.bad(x, "heard in " + r, () -> x.heard(r, 12345));
        }
        c.due("the first row", x.heard(1, 12345), 1);
        c.due("the last row", x.heard(11, 54321), 2);
        c.sentence(20, "(a number of the bells 1 .. n, each once)");
        for (int n : new int[] {4, 5, 6}) {
            HandedSlips y = Towers.bells(n, 0);
            int rounds = Towers.rounds(n);
            c.bad(y, "a bell too few of " + n, () -> y.heard(1, rounds / 10));
            c.bad(y, "a bell too many of " + n, () -> y.heard(1, 10 * rounds + n + 1));
            c.bad(y, "a bell 0 behind " + n, () -> y.heard(1, 10 * rounds));
            c.bad(y, "the last bell is 0 of " + n, () -> y.heard(1, rounds / 10 * 10));
            c.bad(y, "the last bell is beyond " + n, () -> y.heard(1, rounds + 1));
            c.bad(y, "the last bell is 9 of " + n, () -> y.heard(1, rounds - n + 9));
            c.bad(y, "a bell twice of " + n, () -> y.heard(1, rounds - 1));
            c.bad(y, "the first bell twice of " + n, () -> y.heard(1, rounds - n + 1));
            c.bad(y, "below 0 of " + n, () -> y.heard(1, -rounds));
            c.due("each once of " + n, y.heard(1, rounds), 1);
        }
        for (int bells : new int[] {0, -1, LOWEST, HIGHEST, 1111111111, 1234512345}) {
            c.bad(x, "bells " + bells, () -> x.heard(1, bells));
        }
        c.bad(x, "both not as told, counted once", () -> x.heard(0, 0));
    }

    private static void heardFull() {
        c.sentence(20, "HEARD: how many there are. BAD; FULL: 4.");
        HandedSlips x = new HandedSlips();
        for (int many = 1; many <= 4; many++) {
            c.due("the " + many + ".", x.heard(3, 12345), many);
        }
        c.refused(x, "the fifth", FULL, () -> x.heard(3, 12345));
        c.bad(x, "a fifth in no row: bad ahead of full", () -> x.heard(12, 12345));
        c.bad(x, "a fifth of no bells: bad ahead of full", () -> x.heard(3, 12344));
        x.forget(0);
        c.due("the first again", x.heard(3, 12345), 1);
    }

    // ---- 21 and 22

    private static HandedSlips slipsInRows(int n, int... rows) {
        HandedSlips x = Towers.bells(n, 0);
        for (int r = 0; r < rows.length; r++) {
            x.slips(r, PLAIN, rows[r]);
        }
        return x;
    }

    private static void whoDue(String where, HandedSlips x, int many, int all, int some) {
        c.answers(x, where + ": how many", many, () -> x.who(0));
        c.answers(x, where + ": in all", all, () -> x.who(1));
        c.answers(x, where + ": in some", some, () -> x.who(2));
    }

    private static void who() {
        c.sentence(21, "sets of ROPES that have a SLIP so that, just these making theirs (others not), all HEARD are so");
        whoDue("no slips, none heard", new HandedSlips(), 1, 0, 0);
        whoDue("the most sets", slipsInRows(6, 1, 2, 3, 4, 5, 6), 64, 0, 63);
        HandedSlips x = slipsInRows(5, 1, 2, 3, 4);
        x.heard(1, 21345);
        x.heard(2, 13245);
        x.heard(3, 12435);
        whoDue("three heard", x, 2, 7, 15);
        x.heard(4, 12354);
        whoDue("four heard", x, 1, 15, 15);
        HandedSlips ends = slipsInRows(5, 1, 11);
        ends.heard(11, 13245);
        whoDue("heard in the last row", ends, 2, 2, 3);
        ends.heard(1, 21345);
        whoDue("heard in the first row, too", ends, 1, 3, 3);
        HandedSlips y = slipsInRows(5, 1, 2, 3, 4);
        for (int r = 1; r <= 4; r++) {
            y.heard(r, 12345);
        }
        whoDue("none of them: a set of no ropes", y, 1, 0, 0);
        c.sentence(21, "in all (1; bits; NONE: no set)");
        HandedSlips z = slipsInRows(5, 1, 2, 3);
        z.heard(1, 21345);
        z.heard(2, 13245);
        z.heard(3, 12435);
        z.heard(11, 21345);
        whoDue("the fourth can not be", z, 0, NONE, 0);
        c.sentence(21, "in some (2; bits). BAD.");
        for (int what : new int[] {-1, 3, LOWEST, HIGHEST}) {
            c.bad(z, "who " + what, () -> z.who(what));
        }
    }

    private static void tell() {
        c.sentence(22, "of like ones the least; none: no set.");
        HandedSlips x = new HandedSlips();
        c.answers(x, "no slips: all rows are like", 1, x::tell);
        HandedSlips y = slipsInRows(5, 9, 4, 9, 4);
        // four rows in each of two, by four sets each
        c.answers(y, "rows 4 and 9 are like", 4, y::tell);
        y.heard(4, 13245);
        c.due("row 4 is heard", y.tell(), 9);
        y.heard(9, 21345);
        c.due("one set: all rows are like", y.tell(), 1);
        y.heard(5, 21345);
        c.answers(y, "no set", NONE, y::tell);
        HandedSlips most = slipsInRows(6, 1, 2, 3, 4, 5, 6);
        c.answers(most, "64 sets, by each of six rows 32", 1, most::tell);
        c.sentence(22, "TELL: the ROW (1 .. 11) by which most of these sets would be RUNG alike are fewest");
        HandedSlips z = slipsInRows(5, 11);
        c.answers(z, "the last row", 11, z::tell);
        HandedSlips v = slipsInRows(5, 11, 1);
        c.answers(v, "the first row", 1, v::tell);
        v.slips(2, PLAIN, 11);
        c.answers(v, "the last row again", 11, v::tell);
    }

    // ---- 23 to 25

    private static void note() {
        c.sentence(23, "on a ROPE a bell that would come to place p comes to q (1 .. 6 both, of 6 bells)");
        for (int n = 4; n <= 6; n++) {
            HandedSlips x = Towers.bells(n, 0);
            for (int rope : new int[] {-1, n, LOWEST, HIGHEST}) {
                c.bad(x, "rope " + rope + " of " + n, () -> x.note(rope, 1, 1));
            }
            for (int place : new int[] {0, 7, -1, LOWEST, HIGHEST}) {
                c.bad(x, "from " + place, () -> x.note(0, place, 1));
                c.bad(x, "to " + place, () -> x.note(0, 1, place));
            }
            c.bad(x, "all three not as told, counted once", () -> x.note(9, 0, 7));
            c.due("the first rope, the last place, of " + n, x.note(0, 6, 1), 1);
            c.due("the last rope, to the last place, of " + n, x.note(n - 1, 1, 6), 2);
        }
        c.sentence(23, "A NOTE: how many there are. BAD; FULL: 6.");
        HandedSlips x = new HandedSlips();
        for (int many = 1; many <= 6; many++) {
            c.due("the " + many + ".", x.note(1, 2, 3), many);
        }
        c.refused(x, "the seventh", FULL, () -> x.note(1, 2, 3));
        c.refused(x, "a seventh of another rope", FULL, () -> x.note(0, 2, 3));
        c.bad(x, "a seventh of no rope: bad ahead of full", () -> x.note(5, 2, 3));
        c.bad(x, "a seventh to no place: bad ahead of full", () -> x.note(1, 2, 7));
        x.forget(1);
        c.due("the first again", x.note(1, 2, 3), 1);
    }

    private static void mark() {
        c.sentence(24, "a RINGER (by his ROPE) with YEARS y (0 .. 99) in YEAR t (0 .. 99) made it (1) or not (0)");
        HandedSlips x = new HandedSlips();
        for (int rope : new int[] {-1, 5, LOWEST, HIGHEST}) {
            c.bad(x, "rope " + rope, () -> x.mark(rope, 0, 0, 0));
        }
        for (int years : new int[] {-1, 100, LOWEST, HIGHEST}) {
            c.bad(x, "y " + years, () -> x.mark(0, years, 0, 0));
            c.bad(x, "t " + years, () -> x.mark(0, 0, years, 0));
        }
        for (int made : new int[] {-1, 2, LOWEST, HIGHEST}) {
            c.bad(x, "made " + made, () -> x.mark(0, 0, 0, made));
        }
        c.bad(x, "all four not as told, counted once", () -> x.mark(5, 100, 100, 2));
        c.due("the least of each", x.mark(0, 0, 0, 0), 1);
        c.due("the highest of each", x.mark(4, 99, 99, 1), 2);
        c.sentence(24, "A MARK: how many there are. BAD; FULL: 6.");
        for (int many = 3; many <= 6; many++) {
            c.due("the " + many + ".", x.mark(2, 5, 5, 1), many);
        }
        c.refused(x, "the seventh", FULL, () -> x.mark(2, 5, 5, 1));
        c.bad(x, "a bad seventh: bad ahead of full", () -> x.mark(2, 5, 5, 2));
        x.forget(2);
        c.due("the first again", x.mark(2, 5, 5, 1), 1);
    }

    private static void forget() {
        c.sentence(25, "No HEARD ones (0), NOTES (1), MARKS (2): how many there were. BAD.");
        HandedSlips x = new HandedSlips();
        for (int what : new int[] {-1, 3, LOWEST, HIGHEST}) {
            c.bad(x, "forget " + what, () -> x.forget(what));
        }
        for (int what = 0; what < 3; what++) {
            int none = what;
            c.answers(x, "none there " + what, 0, () -> x.forget(none));
        }
        for (int i = 0; i < 7; i++) {
            x.heard(1, 12345);
            x.note(0, 1, 1);
            x.mark(0, 1, 1, 1);
        }
        c.due("four heard", x.forget(0), 4);
        c.due("none heard now", x.count(5), 0);
        c.due("the notes stay", x.count(6), 6);
        c.due("six notes", x.forget(1), 6);
        c.due("no notes now", x.count(6), 0);
        c.due("the marks stay", x.count(7), 6);
        c.due("six marks", x.forget(2), 6);
        c.due("no marks now", x.count(7), 0);
        c.due("forgotten twice", x.forget(0) + x.forget(1) + x.forget(2), 0);
    }

    // ---- 26 to 29

    /** Notes of rope 2, from and to, one behind the other. */
    private static HandedSlips noted(int... places) {
        HandedSlips x = new HandedSlips();
        for (int i = 0; i + 1 < places.length; i += 2) {
            x.note(2, places[i], places[i + 1]);
        }
        return x;
    }

    /** The call of each rope that is not there is bad; of one without notes and marks it has this answer. */
    private static void badRopes(int answer, ToIntBiFunction<HandedSlips, Integer> call) {
        HandedSlips x = new HandedSlips();
        for (int rope : new int[] {-1, 5, LOWEST, HIGHEST}) {
            c.bad(x, "rope " + rope, () -> call.applyAsInt(x, rope));
        }
        HandedSlips four = Towers.bells(4, 0);
        c.bad(four, "rope 4 of four", () -> call.applyAsInt(four, 4));
        c.answers(four, "the last of four", answer, () -> call.applyAsInt(four, 3));
    }

    private static void is() {
        c.sentence(26, "IS: KINDS (bits) of SLIPS by which all NOTES of one are so.");
        HandedSlips x = noted();
        c.answers(x, "no notes: all kinds", 63, () -> x.is(2));
        c.due("one kind", noted(1, 2).is(2), 1);
        HandedSlips none = noted(2, 5);
        c.answers(none, "no kind", 0, () -> none.is(2));
        HandedSlips six = noted(6, 6, 6, 6, 6, 6, 6, 6, 6, 6, 3, 3);
        c.due("the sixth counts", six.is(2), 1 << DROPPED);
        c.due("another rope's do not", six.is(1), 63);
        c.due("the last kind, with its like", noted(1, 3).is(2), (1 << ECHO) + (1 << LATE));
        c.sentence(26, "(1 .. 6 both, of 6 bells)");
        HandedSlips four = Towers.bells(4, 0);
        four.note(3, 4, 5);
        c.due("4 to 5 in a tower of four", four.is(3), 1 << PLAIN);
        c.sentence(26, "IS, as bits. BAD.");
        badRopes(63, HandedSlips::is);
    }

    private static void look() {
        c.sentence(27, "of like ones the least; none: no KIND.");
        HandedSlips none = noted(2, 5);
        c.answers(none, "no kind", NONE, () -> none.look(2));
        c.due("one kind: all places are like", noted(1, 2).look(2), 1);
        c.due("two kinds that are never apart", noted(1, 3).look(2), 1);
        c.due("all kinds: 1 and 2 are like", noted().look(2), 1);
        c.sentence(27, "LOOK: the place p (1 .. 6) by which the most of these KINDS that come alike are fewest");
        c.due("the second place", noted(1, 1).look(2), 2);
        c.sentence(27, "LOOK. NONE. BAD.");
        badRopes(1, HandedSlips::look);
    }

    /** Marks of ringer 2: y, t, made. */
    private static HandedSlips marked(int... marks) {
        HandedSlips x = new HandedSlips();
        for (int i = 0; i + 2 < marks.length; i += 3) {
            x.mark(2, marks[i], marks[i + 1], marks[i + 2]);
        }
        return x;
    }

    private static void kinds() {
        c.sentence(28, "WHAT: KINDS of RINGERS (bits) by which all MARKS of one are so.");
        HandedSlips x = marked();
        c.answers(x, "no marks: all kinds", 63, () -> x.kinds(2));
        HandedSlips none = marked(1, 2, 1, 1, 2, 0);
        c.answers(none, "no kind", 0, () -> none.kinds(2));
        HandedSlips six = marked(0, 0, 0, 0, 0, 0, 0, 0, 0, 0, 0, 0, 0, 0, 0, 99, 99, 1);
        c.due("the sixth counts: learner, proud, stranger", six.kinds(2), 2 + 4 + 8);
        c.due("another's do not", six.kinds(3), 63);
        c.due("2 years: no learner", marked(2, 1, 1).kinds(2), 1 + 4 + 16);
        c.due("3 years: a learner", marked(3, 1, 1).kinds(2), 1 + 2 + 4);
        c.due("8 years: no stranger", marked(8, 1, 1).kinds(2), 1 + 2 + 4 + 16);
        c.due("9 years: a stranger", marked(9, 1, 1).kinds(2), 1 + 2 + 4 + 8);
        c.due("year 95: no proud one", marked(0, 95, 1).kinds(2), 1 + 16);
        c.due("year 98: a lent one", marked(1, 98, 1).kinds(2), 1 + 4 + 32);
        c.sentence(28, "WHAT, as bits. BAD.");
        badRopes(63, HandedSlips::kinds);
    }

    private static void ask() {
        c.sentence(29, "of like ones the least; none: no KIND.");
        HandedSlips none = marked(1, 2, 1, 1, 2, 0);
        c.answers(none, "no kind", NONE, () -> none.ask(2));
        c.due("one kind: all are like", marked(1, 90, 1).ask(2), 0);
        c.due("all kinds: three and three by four years", marked().ask(2), 4);
        c.sentence(29, "ASK: 100 t and y (t 0 .. 9, y 0 .. 9)");
        c.due("the last of the years", marked(0, 0, 0).ask(2), 9);
        c.due("learner or stranger", marked(9, 0, 1, 0, 0, 0).ask(2), 3);
        c.due("proud or lent: year 1", marked(1, 2, 1, 0, 5, 0).ask(2), 100);
        // proud, stranger, left hand, lent: in year 0 ten years would part them two and two, nine do not
        c.due("ten years are none to ask", marked(3, 0, 0).ask(2), 100);
        c.sentence(29, "ASK. NONE. BAD.");
        badRopes(4, HandedSlips::ask);
    }

    // ---- 30

    private static HandedSlips twoSlips(int n, int a, int kindOfA, int b, int kindOfB) {
        HandedSlips x = Towers.bells(n, 0);
        x.slips(a, kindOfA, 3);
        x.slips(b, kindOfB, 5);
        return x;
    }

    private static void lends() {
        c.sentence(30, "LENDS, as bits. BAD: alike, too; NO: one has no SLIP.");
        HandedSlips x = twoSlips(5, 3, PLAIN, 4, PLAIN);
        for (int rope : new int[] {-1, 5, LOWEST, HIGHEST}) {
            c.bad(x, "lends " + rope + " 3", () -> x.lends(rope, 3));
            c.bad(x, "lends 3 " + rope, () -> x.lends(3, rope));
            c.bad(x, "both not there, counted once", () -> x.lends(rope, rope));
            c.bad(x, "not there, and none: bad ahead of no", () -> x.lends(rope, 0));
            c.bad(x, "none, and not there: bad ahead of no", () -> x.lends(0, rope));
        }
        c.bad(x, "alike", () -> x.lends(3, 3));
        c.bad(x, "alike, and none: bad ahead of no", () -> x.lends(0, 0));
        c.refused(x, "the first has none", NO, () -> x.lends(0, 3));
        c.refused(x, "the second has none", NO, () -> x.lends(3, 0));
        c.refused(x, "both have none", NO, () -> x.lends(0, 1));
        x.drops(3);
        c.refused(x, "one was taken", NO, () -> x.lends(3, 4));
    }

    private static void lendsOrNot() {
        c.sentence(30, "(bits: 0 neither, 1 a lends, 2 b lends, 3 both; neither would get more by doing otherwise)");
        HandedSlips keep = twoSlips(5, 0, PLAIN, 1, PLAIN);
        c.answers(keep, "neither", 1, () -> keep.lends(0, 1));
        // bell 1 stays in row 3; lent, bell 2 goes ahead of it: one row more, less 1
        HandedSlips first = twoSlips(6, 0, EARLY, 1, PLAIN);
        c.answers(first, "the first rope lends as well", 1 + 2, () -> first.lends(0, 1));
        c.answers(first, "told the other way round", 1 + 4, () -> first.lends(1, 0));
        // bell 6 stays in row 3; lent, bell 4 goes behind it
        HandedSlips last = twoSlips(6, 5, LATE, 3, PLAIN);
        c.answers(last, "the last rope lends as well", 1 + 2, () -> last.lends(5, 3));
        c.answers(last, "told the other way round", 1 + 4, () -> last.lends(3, 5));
        HandedSlips each = Towers.bells(6, 121212);
        each.slips(5, LATE, 11);
        each.slips(4, PLAIN, 1);
        c.answers(each, "each pair", 1 + 2 + 4 + 8, () -> each.lends(5, 4));
        c.sentence(30, "(Both SLIPS are made in it, whatever their RINGERS; by ROPES, as put.)");
        first.hands(0, LEARNER);
        first.hands(1, LEARNER);
        c.answers(first, "made by neither now", 1 + 2, () -> first.lends(0, 1));
        c.answers(first, "made by neither now, told the other way round", 1 + 4, () -> first.lends(1, 0));
        c.sentence(30, "all others as they are made now");
        // bell 4 stays by LEFT; lent, bell 1 goes to the last place and bell 4 to the third
        HandedSlips x = twoSlips(6, 3, LEFT, 0, PLAIN);
        c.due("no others", x.lends(3, 0), 1 + 2);
        x.slips(4, EARLY, 3);
        // bell 5 goes ahead of bell 4, which is in the fifth place then; or, lent, back in the fourth
        c.due("another is made", x.lends(3, 0), 1);
        x.hands(4, LEARNER);
        c.due("another is not made", x.lends(3, 0), 1 + 2);
    }

    private static void lendsByRopes() {
        c.sentence(30, "by ROPES, as put");
        HandedSlips x = Towers.bells(4, 0);
        x.slips(3, LATE, 3);
        x.slips(1, ECHO, 3);
        x.slips(0, EARLY, 3);
        // neither: 1324. a lends: 1423, 1432, 1324. b lends: 1342, 3412. both: 1423, 1432, 4312.
        // a and b get 0 0, then -1 0, 1 0, 0 0; by the bells that make them, b would get -1 by lending
        c.answers(x, "a slip lent is made when its rope's is", 1 + 4, () -> x.lends(0, 3));
        HandedSlips y = Towers.bells(4, 0);
        y.slips(2, ECHO, 3);
        y.slips(0, LEFT, 3);
        // neither: 2341, 2413. a lends: 2341. b lends: 1234, 1243. both: 1234, 2314. 1 1, 0 1, 1 -1, 0 0
        c.answers(y, "the lesser rope's first, though it is b", 1, () -> y.lends(2, 0));
    }

    // ---- 31

    private static void oddsDue(String where, HandedSlips x, int tenths, long above, long below) {
        c.due(where, x.odds(tenths), 1);
        c.due(where + ", above", x.part(0), above);
        c.due(where + ", below", x.part(1), below);
    }

    private static void odds() {
        c.sentence(31, "by c of 10 (0 .. 10) each SLIP that is made now, apart, is not");
        HandedSlips x = Towers.filled();
        for (int tenths : new int[] {-1, 11, LOWEST, HIGHEST}) {
            c.bad(x, "odds " + tenths, () -> x.odds(tenths));
        }
        HandedSlips y = Towers.bells(5, 323232);
        oddsDue("true, no slips, 0 of 10", y, 0, 1, 1);
        oddsDue("true, no slips, 10 of 10", y, 10, 1, 1);
        y.slips(1, PLAIN, 1);
        oddsDue("made for certain", y, 0, 0, 1);
        oddsDue("not made for certain", y, 10, 1, 1);
        oddsDue("one of ten", y, 1, 1, 10);
        oddsDue("nine of ten", y, 9, 9, 10);
        y.hands(1, LEARNER);
        oddsDue("it is not made now", y, 1, 1, 1);
        HandedSlips z = new HandedSlips();
        oddsDue("rounds, 0 of 10", z, 0, 0, 1);
        oddsDue("rounds, 10 of 10", z, 10, 0, 1);
    }

    private static void oddsLowest() {
        c.sentence(31, "lowest terms, below above 0.");
        // each alone brings a row to one of 0, 2, 4, where none is: true if none is made
        HandedSlips x = Towers.bells(6, 323232);
        int[] rows = {5, 1, 3, 8, 6};
        for (int r = 0; r < 5; r++) {
            x.slips(r, PLAIN, rows[r]);
        }
        x.slips(5, DROPPED, 2);
        // the sixth slip moves none
        oddsDue("1 of 10", x, 1, 1, 100000);
        oddsDue("2 of 10", x, 2, 1, 3125);
        oddsDue("3 of 10", x, 3, 243, 100000);
        oddsDue("4 of 10", x, 4, 32, 3125);
        oddsDue("5 of 10", x, 5, 1, 32);
        oddsDue("9 of 10", x, 9, 59049, 100000);
        oddsDue("10 of 10", x, 10, 1, 1);
        oddsDue("0 of 10", x, 0, 0, 1);
        c.sentence(31, "ODDS are THE FRACTION: 1. BAD.");
        oddsDue("6 of 10", x, 6, 243, 3125);
        c.bad(x, "odds 11", () -> x.odds(11));
        c.due("the fraction stays", x.part(0), 243);
        c.due("the fraction stays", x.part(1), 3125);
    }

    // ---- 32 and 33

    private static HandedSlips threeRows() {
        HandedSlips x = new HandedSlips();
        x.slips(0, PLAIN, 3);
        x.slips(2, LATE, 5);
        x.slips(4, EARLY, 9);
        return x;
    }

    private static void weddings() {
        c.sentence(32, "WEDDINGS by a SEED (0 .. 999999), n (0 .. 60) YEARS");
        HandedSlips x = threeRows();
        for (int seed : new int[] {-1, 1000000, LOWEST, HIGHEST}) {
            c.bad(x, "seed " + seed, () -> x.weddings(seed, 1));
        }
        for (int n : new int[] {-1, 61, LOWEST, HIGHEST}) {
            c.bad(x, "years " + n, () -> x.weddings(1, n));
        }
        c.bad(x, "both not as told, counted once", () -> x.weddings(-1, -1));
        c.answers(x, "no year", 0, () -> x.weddings(0, 0));
        c.answers(x, "no year of the highest seed", 0, () -> x.weddings(999999, 0));
        // told by a program apart from this one
        c.answers(x, "the least seed, 59 years", 113, () -> x.weddings(0, 59));
        c.answers(x, "the least seed, sixty years", 115, () -> x.weddings(0, 60));
        c.answers(x, "the highest seed, 59 years", 95, () -> x.weddings(999999, 59));
        c.answers(x, "the highest seed, sixty years", 98, () -> x.weddings(999999, 60));
        c.answers(x, "another, sixty years", 115, () -> x.weddings(2, 60));
        HandedSlips none = Towers.bells(6, 123123);
        c.answers(none, "no slips, sixty years", 0, () -> none.weddings(999999, 60));
        c.sentence(32, "by 6 left over (not there: none), is HANDED ON");
        HandedSlips four = Towers.bells(4, 0);
        four.slips(0, PLAIN, 3);
        four.slips(1, PLAIN, 5);
        // seed 7: ropes 4, 2, 2, 0 (to a learner), 5, 5
        c.answers(four, "rope 4 of four", 2, () -> four.weddings(7, 1));
        c.answers(four, "ropes 4 and 5 of four", 2 + 2 + 2 + 1 + 1 + 1, () -> four.weddings(7, 6));
    }

    /** How many rows the slip of one rope of five, at first with a ringer of a kind, changes in the first year of a seed. */
    private static int firstYear(int rope, int kind, int seed) {
        HandedSlips x = new HandedSlips();
        x.slips(rope, LEFT, 5);
        x.hands(rope, kind);
        return x.weddings(seed, 1);
    }

    private static void weddingsLeftOver() {
        c.sentence(32, "X becomes X times 1103515245 and 12345, by 2147483648 what is left over");
        // seed 2: 2207042835 comes to 59559187: rope 908, so 2, to 56, so a PROUD one, in year 0; not rope 33676, so 4
        c.due("the rope that is left over", firstYear(2, OLD, 2), 0);
        c.due("the rope that would be without", firstYear(4, OLD, 2), 1);
        // seed 1: 1103527590 is less: rope 16838, so 2, to 1052, so a PROUD one
        c.due("one that is less", firstYear(2, OLD, 1), 0);
        c.sentence(32, "KIND X by 1048576 (cut), by 6 left over");
        // seed 0: 12345 is rope 0, to an OLD one; seed 5: 1222621274 is rope 18655, so 1, to 1165, so a LEARNER
        c.due("the first kind", firstYear(0, LEARNER, 0), 1);
        c.due("the second kind", firstYear(1, OLD, 5), 0);
        // seed 959: 1709177484 is rope 3, to 1629, so a STRANGER; 1396 more would make it 1630, so a LEFT HAND
        c.due("cut, near the next", firstYear(3, OLD, 959), 0);
        // seed 241: 1806697686 is rope 4, to 1723, so a LEARNER; 1239 less would make it 1722, so an OLD one
        c.due("cut, just above", firstYear(4, OLD, 241), 0);
    }

    private static void weddingsYears() {
        c.sentence(32, "how many ROWS are RUNG otherwise than MEANT then, all together (then the YEAR goes by)");
        HandedSlips x = Towers.bells(4, 0);
        x.slips(1, PLAIN, 5);
        x.hands(1, PROUD);
        // seed 7 leaves rope 1 as it is for four years: 0, then 1, 2, 3
        c.answers(x, "not in the first, the year 0", 0, () -> x.weddings(7, 1));
        c.answers(x, "in the three behind it", 3, () -> x.weddings(7, 4));
        c.sentence(32, "YEARS go beyond 999 in them.");
        HandedSlips late = Towers.told("tower 4;slip 1 0 5;" + "years 99;".repeat(10) + "years 9;");
        late.hands(1, PROUD);
        c.answers(late, "999, not 1000, 1001, 1002", 3, () -> late.weddings(7, 4));
        c.sentence(32, "YEARS of each RINGER are one more (99 at most)");
        HandedSlips old = Towers.told("tower 4;slip 1 0 5;ringer 1 " + LEFT_HAND + " 98;");
        c.answers(old, "98, then 99 for good", 1, () -> old.weddings(7, 4));
    }

    private static void part() {
        c.sentence(33, "THE FRACTION is 0 by 1 at first");
        HandedSlips x = new HandedSlips();
        c.answers(x, "above", 0, () -> x.part(0));
        c.answers(x, "below", 1, () -> x.part(1));
        c.sentence(33, "THE FRACTION: above (0), below (1). BAD.");
        for (int what : new int[] {-1, 2, LOWEST, HIGHEST}) {
            c.bad(x, "part " + what, () -> (int) x.part(what));
        }
        c.due("as a long, too", x.part(2), Towers.BAD);
    }
}
