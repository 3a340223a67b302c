import java.util.Arrays;

/** A tower whose ropes are handed on with their slips; shared/DOC.md tells what each call promises. */
public final class HandedSlips {
    public static final int NONE = -1, BAD = -2, NO = -3, FULL = -4;

    private static final int LEAST_BELLS = 4;
    private static final int MOST_BELLS = 6;
    private static final int FIRST_BELLS = 5;
    private static final int ROWS = 12;
    private static final int CHANGES = 6;
    private static final int LAST_CHANGE = 3;
    private static final int ALL_KINDS = 6;
    private static final int LAST_YEAR = 999;
    private static final int MOST_YEARS = 99;
    private static final int YEARS_AHEAD = 60;
    private static final int LAST_SEED = 999999;
    private static final int TEXT_LIMIT = 150;
    private static final int UNDO_LIMIT = 8;
    private static final int HEARD_LIMIT = 4;
    private static final int NOTE_LIMIT = 6;
    private static final int MARK_LIMIT = 6;
    private static final int SETS = 64;

    private final Tower now = new Tower();
    private final Tower firstImage = new Tower();
    private final Tower secondImage = new Tower();
    private final boolean[] kept = new boolean[2];
    private final Text text = new Text();
    private final Reader reader = new Reader();
    private final Ringing ringing = new Ringing();
    private final Evidence evidence = new Evidence();
    private final int[] refused = new int[3];
    private long above = 0;
    private long below = 1;

    public HandedSlips() {
    }

    // ---- a tower

    public int tower(int n) {
        if (!within(n, LEAST_BELLS, MOST_BELLS)) {
            return refuse(BAD);
        }
        int before = now.bells;
        now.begin(n);
        return before;
    }

    public int method(int k, int c) {
        if (!within(k, 0, CHANGES - 1) || !within(c, 0, LAST_CHANGE)) {
            return refuse(BAD);
        }
        int before = now.changes[k];
        now.changes[k] = c;
        now.history.letGo();
        return before;
    }

    public int type(int c) {
        if (!within(c, 0, 127)) {
            return refuse(BAD);
        }
        if (text.length >= TEXT_LIMIT) {
            return refuse(FULL);
        }
        text.append(c);
        return text.length;
    }

    public int clear() {
        return text.empty();
    }

    public int read() {
        int items = reader.parse(text);
        if (items > 0) {
            now.copyTower(reader.draft);
        }
        return items;
    }

    // ---- ropes, years

    public int slips(int r, int kind, int row) {
        if (!isRope(r) || !isKind(kind) || !within(row, 1, ROWS - 1)) {
            return refuse(BAD);
        }
        int had = now.ropes.hasSlip(r) ? 1 : 0;
        now.history.keep(now.ropes);
        now.ropes.putSlip(r, kind, row);
        return had;
    }

    public int drops(int r) {
        if (!isRope(r)) {
            return refuse(BAD);
        }
        if (!now.ropes.hasSlip(r)) {
            return refuse(NO);
        }
        int kind = now.ropes.slipKind(r);
        now.history.keep(now.ropes);
        now.ropes.takeSlip(r);
        return kind;
    }

    public int hands(int r, int kind) {
        if (!isRope(r) || !isKind(kind)) {
            return refuse(BAD);
        }
        int before = now.ropes.yearsOf(r);
        now.history.keep(now.ropes);
        now.ropes.seat(r, kind, 0);
        return before;
    }

    public int year(int n) {
        if (!within(n, 1, YEARS_AHEAD)) {
            return refuse(BAD);
        }
        now.history.keep(now.ropes);
        now.ropes.passYears(n);
        return ringNow().isTrue() ? 1 : 0;
    }

    public int undo() {
        if (now.history.size == 0) {
            return refuse(NO);
        }
        now.history.restore(now.ropes);
        return now.ropes.townYear();
    }

    public int of(int r, int what) {
        if (!isRope(r) || !within(what, 0, 4)) {
            return refuse(BAD);
        }
        return ropeFact(r, what);
    }

    // ---- what is rung

    public int row(int k, int what) {
        if (!within(k, 0, ROWS - 1) || !within(what, 0, 1)) {
            return refuse(BAD);
        }
        Peal peal = ringNow();
        return what == 0 ? peal.meantNumbers[k] : peal.rungNumbers[k];
    }

    public int repeats(int what) {
        if (!within(what, 0, 1)) {
            return refuse(BAD);
        }
        Peal peal = ringNow();
        int repeat = peal.firstRepeat();
        return what == 0 ? repeat : peal.rowLike(repeat);
    }

    public int clash(int what) {
        if (!within(what, 0, 1)) {
            return refuse(BAD);
        }
        int row = now.ropes.fullestRow();
        return what == 1 ? row : now.ropes.madeInRow(row);
    }

    public int mend() {
        return ringing.leastMend(now);
    }

    public int compose() {
        return ringing.leastMethod(now);
    }

    public int when() {
        return ringing.yearsUntilTrue(now);
    }

    public int clean() {
        return ((1 << now.bells) - 1) & ~now.ropes.madeBits();
    }

    // ---- who it was

    public int heard(int r, int bells) {
        if (!within(r, 1, ROWS - 1) || !isRow(bells)) {
            return refuse(BAD);
        }
        if (now.heardRows.size >= HEARD_LIMIT) {
            return refuse(FULL);
        }
        return now.heardRows.append(r, bells, 0, 0);
    }

    public int who(int what) {
        if (!within(what, 0, 2)) {
            return refuse(BAD);
        }
        evidence.findSets(now, ringing.peal);
        if (what == 0) {
            return evidence.setCount;
        }
        return what == 1 ? evidence.ropesInAll() : evidence.ropesInSome();
    }

    public int tell() {
        evidence.findSets(now, ringing.peal);
        return evidence.tellingRow();
    }

    public int note(int r, int p, int q) {
        if (!isRope(r) || !within(p, 1, MOST_BELLS) || !within(q, 1, MOST_BELLS)) {
            return refuse(BAD);
        }
        if (now.notes.size >= NOTE_LIMIT) {
            return refuse(FULL);
        }
        return now.notes.append(r, p, q, 0);
    }

    public int mark(int r, int y, int t, int made) {
        if (!isRope(r) || !within(y, 0, MOST_YEARS) || !within(t, 0, MOST_YEARS) || !within(made, 0, 1)) {
            return refuse(BAD);
        }
        if (now.marks.size >= MARK_LIMIT) {
            return refuse(FULL);
        }
        return now.marks.append(r, y, t, made);
    }

    public int forget(int what) {
        if (!within(what, 0, 2)) {
            return refuse(BAD);
        }
        Records records = what == 0 ? now.heardRows : what == 1 ? now.notes : now.marks;
        return records.forgetAll();
    }

    public int is(int r) {
        return isRope(r) ? Evidence.slipKinds(now.notes, r) : refuse(BAD);
    }

    public int look(int r) {
        return isRope(r) ? evidence.lookingPlace(Evidence.slipKinds(now.notes, r)) : refuse(BAD);
    }

    public int kinds(int r) {
        return isRope(r) ? Evidence.ringerKinds(now.marks, r) : refuse(BAD);
    }

    public int ask(int r) {
        return isRope(r) ? Evidence.askingYears(Evidence.ringerKinds(now.marks, r)) : refuse(BAD);
    }

    public int lends(int a, int b) {
        if (!isRope(a) || !isRope(b) || a == b) {
            return refuse(BAD);
        }
        if (!now.ropes.hasSlip(a) || !now.ropes.hasSlip(b)) {
            return refuse(NO);
        }
        return ringing.restingPairs(now, a, b);
    }

    public int odds(int c) {
        if (!within(c, 0, 10)) {
            return refuse(BAD);
        }
        long whole = power(10, Integer.bitCount(now.ropes.madeBits()));
        long part = ringing.trueWeight(now, c);
        long divisor = commonDivisor(whole, part);
        above = divisor > 0 ? part / divisor : part;
        below = divisor > 0 ? whole / divisor : whole;
        return 1;
    }

    public int weddings(int seed, int n) {
        if (!within(seed, 0, LAST_SEED) || !within(n, 0, YEARS_AHEAD)) {
            return refuse(BAD);
        }
        return ringing.weddingRows(now, seed, n);
    }

    // ---- what there is

    public long part(int what) {
        if (!within(what, 0, 1)) {
            return refuse(BAD);
        }
        return what == 0 ? above : below;
    }

    public int image(int i) {
        if (!within(i, 0, 1)) {
            return refuse(BAD);
        }
        kept[i] = true;
        imageAt(i).copyTower(now);
        return 1;
    }

    public int from(int i) {
        if (!within(i, 0, 1)) {
            return refuse(BAD);
        }
        if (!kept[i]) {
            return refuse(NO);
        }
        now.copyTower(imageAt(i));
        return 1;
    }

    public int status(int what) {
        if (!within(what, 0, 2)) {
            refuse(BAD);
            return -1;
        }
        return refused[what];
    }

    public int count(int what) {
        return within(what, 0, 9) ? howMany(what) : refuse(BAD);
    }

    public long digest() {
        long h = 1549;
        for (int what = 0; what <= 9; what++) {
            h = 31 * h + howMany(what);
        }
        for (int k = 0; k < CHANGES; k++) {
            h = 31 * h + now.changes[k];
        }
        for (int r = 0; r < now.bells; r++) {
            for (int what = 0; what <= 3; what++) {
                h = 31 * h + ropeFact(r, what);
            }
        }
        h = now.heardRows.mixInto(h, 2);
        h = now.notes.mixInto(h, 3);
        h = now.marks.mixInto(h, 4);
        h = 31 * h + above;
        return 31 * h + below;
    }

    // ---- helpers of the face

    private static boolean within(int value, int least, int most) {
        return value >= least && value <= most;
    }

    private boolean isRope(int r) {
        return within(r, 0, now.bells - 1);
    }

    private static boolean isKind(int kind) {
        return within(kind, 0, ALL_KINDS - 1);
    }

    /** Whether the number has each of the bells once and nothing else. */
    private boolean isRow(int number) {
        int rest = number;
        int seen = 0;
        for (int i = 0; i < now.bells; i++) {
            int bell = rest % 10;
            if (!within(bell, 1, now.bells)) {
                return false;
            }
            seen |= 1 << bell;
            rest /= 10;
        }
        return rest == 0 && Integer.bitCount(seen) == now.bells;
    }

    private int refuse(int answer) {
        int reason = BAD - answer;
        if (within(reason, 0, 2)) {
            refused[reason]++;
        }
        return answer;
    }

    private Tower imageAt(int i) {
        return i == 0 ? firstImage : secondImage;
    }

    private Peal ringNow() {
        Peal peal = ringing.peal;
        peal.mean(now.bells, now.changes);
        peal.ring(now.ropes, now.ropes.madeBits());
        return peal;
    }

    private int ropeFact(int r, int what) {
        switch (what) {
            case 0:
                return now.ropes.slipKind(r);
            case 1:
                return now.ropes.slipRow(r);
            case 2:
                return now.ropes.ringerKind(r);
            case 3:
                return now.ropes.yearsOf(r);
            default:
                return now.ropes.makesSlip(r) ? 1 : 0;
        }
    }

    private int howMany(int what) {
        switch (what) {
            case 0:
                return now.bells;
            case 1:
                return Integer.bitCount(now.ropes.slipBits());
            case 2:
                return Integer.bitCount(now.ropes.madeBits());
            case 3:
                return now.ropes.townYear();
            case 4:
                return ringNow().rowsAstray();
            case 5:
                return now.heardRows.size;
            case 6:
                return now.notes.size;
            case 7:
                return now.marks.size;
            case 8:
                return now.history.size;
            default:
                return text.length;
        }
    }

    private static long power(long base, int exponent) {
        long product = 1;
        for (int i = 0; i < exponent; i++) {
            product *= base;
        }
        return product;
    }

    private static long commonDivisor(long a, long b) {
        long larger = a;
        long smaller = b;
        for (int step = 0; step < 1000 && smaller != 0; step++) {
            long rest = larger % smaller;
            larger = smaller;
            smaller = rest;
        }
        return larger;
    }

    /** To which place a slip of a kind takes a bell. */
    private static final class SlipKind {
        static final int PLAIN = 0, EARLY = 1, LATE = 2, DROPPED = 3, LEFT = 4;

        static int placeTold(int kind, int place, int bells) {
            int plain = Math.min(place + 1, bells);
            int early = Math.max(plain - 2, 1);
            int late = Math.min(plain + 1, bells);
            switch (kind) {
                case PLAIN:
                    return plain;
                case EARLY:
                    return early;
                case LATE:
                    return late;
                case DROPPED:
                    return late == bells ? bells : place;
                case LEFT:
                    return bells + 1 - early;
                default:
                    // ECHO: PLAIN told of the place that PLAIN tells
                    return Math.min(plain + 1, bells);
            }
        }
    }

    /** Whether a ringer of a kind makes the slip of his rope. */
    private static final class RingerKind {
        static final int OLD = 0, LEARNER = 1, PROUD = 2, STRANGER = 3, LEFT_HAND = 4;

        static boolean makes(int kind, int years, int townYear) {
            boolean learner = years >= 3;
            boolean proud = townYear % 5 != 0;
            switch (kind) {
                case OLD:
                    return true;
                case LEARNER:
                    return learner;
                case PROUD:
                    return proud;
                case STRANGER:
                    return years >= 9 && learner;
                case LEFT_HAND:
                    return years % 2 == 0;
                default:
                    // LENT
                    return proud && townYear % 2 == 0;
            }
        }
    }

    /** Slips, ringers, their years and the town's: all that may be undone, in one array so that it is copied at once. */
    private static final class Ropes {
        private static final int SLIP_KIND = 0, SLIP_ROW = 6, RINGER = 12, YEARS = 18, TOWN = 24, CELLS = 25;

        private final int[] cells = new int[CELLS];

        Ropes() {
            untell();
        }

        void untell() {
            for (int i = 0; i < CELLS; i++) {
                cells[i] = i < RINGER ? NONE : 0;
            }
        }

        void copyRopes(Ropes other) {
            System.arraycopy(other.cells, 0, cells, 0, CELLS);
        }

        private int cell(int group, int r) {
            return r >= 0 && r < MOST_BELLS ? cells[group + r] : NONE;
        }

        private void setCell(int group, int r, int value) {
            if (r >= 0 && r < MOST_BELLS) {
                cells[group + r] = value;
            }
        }

        int slipKind(int r) {
            return cell(SLIP_KIND, r);
        }

        int slipRow(int r) {
            return cell(SLIP_ROW, r);
        }

        int ringerKind(int r) {
            return cell(RINGER, r);
        }

        int yearsOf(int r) {
            return cell(YEARS, r);
        }

        int townYear() {
            return cells[TOWN];
        }

        boolean hasSlip(int r) {
            return cell(SLIP_KIND, r) != NONE;
        }

        void putSlip(int r, int kind, int row) {
            setCell(SLIP_KIND, r, kind);
            setCell(SLIP_ROW, r, row);
        }

        void takeSlip(int r) {
            putSlip(r, NONE, NONE);
        }

        void seat(int r, int kind, int years) {
            setCell(RINGER, r, kind);
            setCell(YEARS, r, years);
        }

        /** A year goes by without the town's bound, as it does where nothing is changed by it. */
        void passYear() {
            cells[TOWN]++;
            for (int i = YEARS; i < TOWN; i++) {
                cells[i] = Math.min(cells[i] + 1, MOST_YEARS);
            }
        }

        void passYears(int n) {
            for (int i = 0; i < n && townYear() < LAST_YEAR; i++) {
                passYear();
            }
        }

        boolean makesSlip(int r) {
            return hasSlip(r) && RingerKind.makes(ringerKind(r), yearsOf(r), townYear());
        }

        int slipBits() {
            int bits = 0;
            for (int r = 0; r < MOST_BELLS; r++) {
                bits |= hasSlip(r) ? 1 << r : 0;
            }
            return bits;
        }

        int madeBits() {
            int bits = 0;
            for (int r = 0; r < MOST_BELLS; r++) {
                bits |= makesSlip(r) ? 1 << r : 0;
            }
            return bits;
        }

        int madeInRow(int row) {
            int made = 0;
            for (int r = 0; r < MOST_BELLS; r++) {
                made += makesSlip(r) && slipRow(r) == row ? 1 : 0;
            }
            return made;
        }

        /** The first row with the most slips made; 0 if none is made. */
        int fullestRow() {
            int best = 0;
            int most = 0;
            for (int row = 1; row < ROWS; row++) {
                int made = madeInRow(row);
                if (made > most) {
                    most = made;
                    best = row;
                }
            }
            return best;
        }
    }

    /** What may be undone, the oldest first. */
    private static final class History {
        private final int[][] saved = new int[UNDO_LIMIT][Ropes.CELLS];
        private int size = 0;

        void letGo() {
            size = 0;
        }

        void keep(Ropes ropes) {
            if (size >= UNDO_LIMIT) {
                dropOldest();
            }
            System.arraycopy(ropes.cells, 0, saved[size], 0, Ropes.CELLS);
            size++;
        }

        private void dropOldest() {
            for (int i = 1; i < UNDO_LIMIT; i++) {
                System.arraycopy(saved[i], 0, saved[i - 1], 0, Ropes.CELLS);
            }
            size = UNDO_LIMIT - 1;
        }

        void restore(Ropes ropes) {
            if (size > 0) {
                size--;
                System.arraycopy(saved[size], 0, ropes.cells, 0, Ropes.CELLS);
            }
        }

        void copyHistory(History other) {
            size = other.size;
            for (int i = 0; i < UNDO_LIMIT; i++) {
                System.arraycopy(other.saved[i], 0, saved[i], 0, Ropes.CELLS);
            }
        }
    }

    /** What was told, as it came: up to six records of up to four numbers. */
    private static final class Records {
        private static final int WIDTH = 4, MOST = 6;

        private final int[] cells = new int[WIDTH * MOST];
        private int size = 0;

        int append(int a, int b, int c, int d) {
            if (size < MOST) {
                int start = WIDTH * size;
                cells[start] = a;
                cells[start + 1] = b;
                cells[start + 2] = c;
                cells[start + 3] = d;
                size++;
            }
            return size;
        }

        int cell(int i, int column) {
            boolean there = within(i, 0, size - 1) && within(column, 0, WIDTH - 1);
            return there ? cells[WIDTH * i + column] : NONE;
        }

        long mixInto(long hash, int columns) {
            long h = hash;
            for (int i = 0; i < size; i++) {
                for (int column = 0; column < columns; column++) {
                    h = 31 * h + cell(i, column);
                }
            }
            return h;
        }

        int forgetAll() {
            int before = size;
            size = 0;
            return before;
        }

        void copyRecords(Records other) {
            size = other.size;
            System.arraycopy(other.cells, 0, cells, 0, WIDTH * MOST);
        }
    }

    /** All that an image keeps. */
    private static final class Tower {
        private final int[] changes = new int[CHANGES];
        private final Ropes ropes = new Ropes();
        private final History history = new History();
        private final Records heardRows = new Records();
        private final Records notes = new Records();
        private final Records marks = new Records();
        private int bells = FIRST_BELLS;

        void begin(int bellCount) {
            bells = bellCount;
            Arrays.fill(changes, 0);
            ropes.untell();
            history.letGo();
            heardRows.forgetAll();
            notes.forgetAll();
            marks.forgetAll();
        }

        void copyTower(Tower other) {
            bells = other.bells;
            System.arraycopy(other.changes, 0, changes, 0, CHANGES);
            ropes.copyRopes(other.ropes);
            history.copyHistory(other.history);
            heardRows.copyRecords(other.heardRows);
            notes.copyRecords(other.notes);
            marks.copyRecords(other.marks);
        }
    }

    /** The rows of one peal, as meant and as rung; made once and filled anew for each question. */
    private static final class Peal {
        private final int[][] meant = new int[ROWS][MOST_BELLS];
        private final int[][] rung = new int[ROWS][MOST_BELLS];
        private final int[] meantNumbers = new int[ROWS];
        private final int[] rungNumbers = new int[ROWS];
        private final int[] makers = new int[MOST_BELLS];
        private int bells = FIRST_BELLS;

        /** The rows as meant; each bell makes its own rope's slip until one is lent. */
        void mean(int bellCount, int[] changes) {
            bells = Math.min(bellCount, MOST_BELLS);
            for (int i = 0; i < bells; i++) {
                meant[0][i] = i + 1;
                makers[i] = i + 1;
            }
            meantNumbers[0] = numberOf(meant[0]);
            for (int k = 1; k < ROWS; k++) {
                System.arraycopy(meant[k - 1], 0, meant[k], 0, MOST_BELLS);
                int change = (k - 1) % CHANGES;
                swapPairs(meant[k], change < changes.length ? changes[change] : 0);
                meantNumbers[k] = numberOf(meant[k]);
            }
        }

        private void swapPairs(int[] row, int change) {
            int first = change == 2 ? 1 : 0;
            int end = change == 0 ? 0 : change == 3 ? 2 : bells;
            for (int i = first; i + 1 < end && i + 1 < row.length; i += 2) {
                int bell = row[i];
                row[i] = row[i + 1];
                row[i + 1] = bell;
            }
        }

        /** The bells of two ropes make each other's slips: 1 and 3, that of a is lent; 2 and 3, that of b. */
        void lend(int a, int b, int pair) {
            if (within(a, 0, MOST_BELLS - 1) && within(b, 0, MOST_BELLS - 1)) {
                makers[a] = (pair & 1) != 0 ? b + 1 : a + 1;
                makers[b] = (pair & 2) != 0 ? a + 1 : b + 1;
            }
        }

        /** Just the slips of the ropes in the bits are made. */
        void ring(Ropes ropes, int made) {
            for (int k = 0; k < ROWS; k++) {
                System.arraycopy(meant[k], 0, rung[k], 0, MOST_BELLS);
                for (int r = 0; r < bells; r++) {
                    if ((made >> r & 1) == 1 && ropes.slipRow(r) == k) {
                        makeSlip(rung[k], makers[r], ropes.slipKind(r));
                    }
                }
                rungNumbers[k] = numberOf(rung[k]);
            }
        }

        private void makeSlip(int[] row, int bell, int kind) {
            int start = placeOf(row, bell) - 1;
            int goal = SlipKind.placeTold(kind, start + 1, bells) - 1;
            if (!within(start, 0, row.length - 1) || !within(goal, 0, row.length - 1)) {
                return;
            }
            for (int i = start; i < goal; i++) {
                row[i] = row[i + 1];
            }
            for (int i = start; i > goal; i--) {
                row[i] = row[i - 1];
            }
            row[goal] = bell;
        }

        private int placeOf(int[] row, int bell) {
            for (int i = 0; i < bells && i < row.length; i++) {
                if (row[i] == bell) {
                    return i + 1;
                }
            }
            return NONE;
        }

        private int numberOf(int[] row) {
            int number = 0;
            for (int i = 0; i < bells && i < row.length; i++) {
                number = 10 * number + row[i];
            }
            return number;
        }

        /** The earliest row that is rung as this one; NONE if that is none ahead of it. */
        int rowLike(int row) {
            for (int k = 0; k < row && row < ROWS; k++) {
                if (rungNumbers[k] == rungNumbers[row]) {
                    return k;
                }
            }
            return NONE;
        }

        int firstRepeat() {
            for (int k = 1; k < ROWS; k++) {
                if (rowLike(k) != NONE) {
                    return k;
                }
            }
            return NONE;
        }

        boolean isTrue() {
            return firstRepeat() == NONE;
        }

        int rowsAstray() {
            int astray = 0;
            for (int k = 0; k < ROWS; k++) {
                astray += rungNumbers[k] != meantNumbers[k] ? 1 : 0;
            }
            return astray;
        }

        int rowsAstrayOf(int bell) {
            int astray = 0;
            for (int k = 0; k < ROWS; k++) {
                astray += placeOf(rung[k], bell) != placeOf(meant[k], bell) ? 1 : 0;
            }
            return astray;
        }
    }

    /** What is asked of peals that are tried and not kept. */
    private static final class Ringing {
        private final Peal peal = new Peal();
        private final Ropes trialRopes = new Ropes();
        private final int[] trialChanges = new int[CHANGES];
        private final int[] gainsOfA = new int[4];
        private final int[] gainsOfB = new int[4];

        int leastMend(Tower tower) {
            int made = tower.ropes.madeBits();
            int best = NONE;
            peal.mean(tower.bells, tower.changes);
            for (int left = 0; left < SETS; left++) {
                boolean fewer = best == NONE || Integer.bitCount(left) < Integer.bitCount(best);
                if (fewer && (left & ~made) == 0) {
                    peal.ring(tower.ropes, made & ~left);
                    best = peal.isTrue() ? left : best;
                }
            }
            return best;
        }

        int leastMethod(Tower tower) {
            int made = tower.ropes.madeBits();
            Arrays.fill(trialChanges, 1);
            for (int step = 0; step < 1000; step++) {
                peal.mean(tower.bells, trialChanges);
                peal.ring(tower.ropes, made);
                int repeat = peal.firstRepeat();
                if (repeat == NONE) {
                    return trialNumber();
                }
                if (!advanceTrial(Math.min(repeat, CHANGES) - 1)) {
                    return NONE;
                }
            }
            return NONE;
        }

        /** A row is fixed by the changes ahead of it: methods that differ only behind them repeat it too and are passed over. */
        private boolean advanceTrial(int last) {
            for (int i = CHANGES - 1; i >= 0; i--) {
                if (i <= last && trialChanges[i] < LAST_CHANGE) {
                    trialChanges[i]++;
                    return true;
                }
                trialChanges[i] = 1;
            }
            return false;
        }

        private int trialNumber() {
            int number = 0;
            for (int i = 0; i < CHANGES; i++) {
                number = 10 * number + trialChanges[i];
            }
            return number;
        }

        int yearsUntilTrue(Tower tower) {
            trialRopes.copyRopes(tower.ropes);
            peal.mean(tower.bells, tower.changes);
            for (int years = 0; years <= YEARS_AHEAD; years++) {
                peal.ring(trialRopes, trialRopes.madeBits());
                if (peal.isTrue()) {
                    return years;
                }
                trialRopes.passYear();
            }
            return NONE;
        }

        /** The chance that it is true, times ten for each slip made now. */
        long trueWeight(Tower tower, int c) {
            int made = tower.ropes.madeBits();
            long sum = 0;
            peal.mean(tower.bells, tower.changes);
            for (int left = 0; left < SETS; left++) {
                if ((left & ~made) == 0) {
                    peal.ring(tower.ropes, made & ~left);
                    long weight = power(c, Integer.bitCount(left)) * power(10 - c, Integer.bitCount(made & ~left));
                    sum += peal.isTrue() ? weight : 0;
                }
            }
            return sum;
        }

        int restingPairs(Tower tower, int a, int b) {
            int made = tower.ropes.madeBits() | 1 << a | 1 << b;
            peal.mean(tower.bells, tower.changes);
            for (int pair = 0; pair < 4; pair++) {
                int lentByA = pair & 1;
                int lentByB = pair >> 1;
                peal.lend(a, b, pair);
                peal.ring(tower.ropes, made);
                gainsOfA[pair] = peal.rowsAstrayOf(a + 1) - lentByA - 2 * lentByB;
                gainsOfB[pair] = peal.rowsAstrayOf(b + 1) - lentByB - 2 * lentByA;
            }
            int resting = 0;
            for (int pair = 0; pair < 4; pair++) {
                if (gainsOfA[pair] >= gainsOfA[pair ^ 1] && gainsOfB[pair] >= gainsOfB[pair ^ 2]) {
                    resting |= 1 << pair;
                }
            }
            return resting;
        }

        int weddingRows(Tower tower, int seed, int years) {
            long x = seed;
            int astray = 0;
            trialRopes.copyRopes(tower.ropes);
            peal.mean(tower.bells, tower.changes);
            for (int i = 0; i < years; i++) {
                x = (x * 1103515245L + 12345L) % 2147483648L;
                int rope = (int) (x / 65536 % 6);
                if (rope < tower.bells) {
                    trialRopes.seat(rope, (int) (x / 1048576 % 6), 0);
                }
                peal.ring(trialRopes, trialRopes.madeBits());
                astray += peal.rowsAstray();
                trialRopes.passYear();
            }
            return astray;
        }
    }

    /** Who and what it was, by what was heard, noted and marked. */
    private static final class Evidence {
        private final int[] sets = new int[SETS];
        private final int[][] rowsBySet = new int[SETS][ROWS];
        private final int[] tally = new int[MOST_BELLS + 1];
        private int setCount = 0;

        void findSets(Tower tower, Peal peal) {
            int slipped = tower.ropes.slipBits();
            setCount = 0;
            peal.mean(tower.bells, tower.changes);
            for (int bits = 0; bits < SETS; bits++) {
                if ((bits & ~slipped) == 0) {
                    peal.ring(tower.ropes, bits);
                    if (agrees(tower.heardRows, peal)) {
                        addSet(bits, peal);
                    }
                }
            }
        }

        private static boolean agrees(Records heardRows, Peal peal) {
            for (int i = 0; i < heardRows.size; i++) {
                int row = heardRows.cell(i, 0);
                if (!within(row, 0, ROWS - 1) || peal.rungNumbers[row] != heardRows.cell(i, 1)) {
                    return false;
                }
            }
            return true;
        }

        private void addSet(int bits, Peal peal) {
            if (setCount < SETS) {
                sets[setCount] = bits;
                System.arraycopy(peal.rungNumbers, 0, rowsBySet[setCount], 0, ROWS);
                setCount++;
            }
        }

        int ropesInAll() {
            if (setCount == 0) {
                return NONE;
            }
            int bits = SETS - 1;
            for (int i = 0; i < setCount; i++) {
                bits &= sets[i];
            }
            return bits;
        }

        int ropesInSome() {
            int bits = 0;
            for (int i = 0; i < setCount; i++) {
                bits |= sets[i];
            }
            return bits;
        }

        int tellingRow() {
            int best = NONE;
            int fewest = setCount;
            for (int row = 1; row < ROWS && setCount > 0; row++) {
                int most = mostAlike(row);
                if (best == NONE || most < fewest) {
                    best = row;
                    fewest = most;
                }
            }
            return best;
        }

        private int mostAlike(int row) {
            int most = 0;
            for (int i = 0; i < setCount; i++) {
                int alike = 0;
                for (int j = 0; j < setCount; j++) {
                    alike += rowsBySet[i][row] == rowsBySet[j][row] ? 1 : 0;
                }
                most = Math.max(most, alike);
            }
            return most;
        }

        static int slipKinds(Records notes, int r) {
            int bits = 0;
            for (int kind = 0; kind < ALL_KINDS; kind++) {
                boolean fits = true;
                for (int i = 0; i < notes.size; i++) {
                    int told = SlipKind.placeTold(kind, notes.cell(i, 1), MOST_BELLS);
                    fits = fits && (notes.cell(i, 0) != r || told == notes.cell(i, 2));
                }
                bits |= fits ? 1 << kind : 0;
            }
            return bits;
        }

        int lookingPlace(int kindBits) {
            int best = NONE;
            int fewest = ALL_KINDS;
            for (int place = 1; place <= MOST_BELLS && kindBits != 0; place++) {
                int most = mostComingAlike(kindBits, place);
                if (best == NONE || most < fewest) {
                    best = place;
                    fewest = most;
                }
            }
            return best;
        }

        private int mostComingAlike(int kindBits, int place) {
            int most = 0;
            Arrays.fill(tally, 0);
            for (int kind = 0; kind < ALL_KINDS; kind++) {
                int told = SlipKind.placeTold(kind, place, MOST_BELLS);
                if ((kindBits >> kind & 1) == 1 && within(told, 1, MOST_BELLS)) {
                    tally[told]++;
                    most = Math.max(most, tally[told]);
                }
            }
            return most;
        }

        static int ringerKinds(Records marks, int r) {
            int bits = 0;
            for (int kind = 0; kind < ALL_KINDS; kind++) {
                boolean fits = true;
                for (int i = 0; i < marks.size; i++) {
                    int made = RingerKind.makes(kind, marks.cell(i, 1), marks.cell(i, 2)) ? 1 : 0;
                    fits = fits && (marks.cell(i, 0) != r || made == marks.cell(i, 3));
                }
                bits |= fits ? 1 << kind : 0;
            }
            return bits;
        }

        static int askingYears(int kindBits) {
            int best = NONE;
            int fewest = ALL_KINDS;
            for (int townYear = 0; townYear <= 9 && kindBits != 0; townYear++) {
                for (int years = 0; years <= 9; years++) {
                    int greater = greaterPart(kindBits, years, townYear);
                    if (best == NONE || greater < fewest) {
                        best = 100 * townYear + years;
                        fewest = greater;
                    }
                }
            }
            return best;
        }

        private static int greaterPart(int kindBits, int years, int townYear) {
            int making = 0;
            for (int kind = 0; kind < ALL_KINDS; kind++) {
                boolean counts = (kindBits >> kind & 1) == 1;
                making += counts && RingerKind.makes(kind, years, townYear) ? 1 : 0;
            }
            return Math.max(making, Integer.bitCount(kindBits) - making);
        }
    }

    /** The bytes of the tower's text. */
    private static final class Text {
        private final byte[] bytes = new byte[TEXT_LIMIT];
        private int length = 0;

        int empty() {
            int before = length;
            length = 0;
            return before;
        }

        void append(int c) {
            if (length < TEXT_LIMIT) {
                bytes[length] = (byte) c;
                length++;
            }
        }

        int byteAt(int i) {
            return i >= 0 && i < length ? bytes[i] : NONE;
        }

        boolean spells(String word, int start, int end) {
            if (end - start != word.length()) {
                return false;
            }
            for (int i = 0; i < word.length(); i++) {
                if (byteAt(start + i) != word.charAt(i)) {
                    return false;
                }
            }
            return true;
        }
    }

    /** Reads a text into a draft, token by token. */
    private static final class Reader {
        private static final int END = 0, WORD = 1, NUMBER = 2, STOP = 3, WRONG = 4;
        private static final int TOWER = 0, METHOD = 1, SLIP = 2, RINGER = 3, YEARS = 4;

        private final Tower draft = new Tower();
        private final int[] told = new int[CHANGES];
        private Text text = new Text();
        private int token = END;
        private int tokenStart = 0;
        private int tokenEnd = 0;
        private int tokenValue = NONE;

        /** How many items the text has, or -10 less its fault. */
        int parse(Text source) {
            text = source;
            tokenEnd = 0;
            draft.begin(FIRST_BELLS);
            for (int items = 0; items <= TEXT_LIMIT; items++) {
                nextToken();
                if (token == END && items > 0) {
                    return items;
                }
                if (!readItem(items == 0)) {
                    return -10 - tokenStart;
                }
            }
            return -10 - tokenStart;
        }

        private boolean readItem(boolean first) {
            int item = tokenValue;
            if (token != WORD || item == NONE || first != (item == TOWER)) {
                return false;
            }
            int numbers = numbersOf(item);
            for (int i = 0; i < numbers && i < told.length; i++) {
                nextToken();
                if (token != NUMBER || !standsAt(item, i)) {
                    return false;
                }
                told[i] = tokenValue;
            }
            nextToken();
            if (token != STOP) {
                return false;
            }
            apply(item);
            return true;
        }

        private static int numbersOf(int item) {
            if (item == METHOD) {
                return CHANGES;
            }
            return item == SLIP || item == RINGER ? 3 : 1;
        }

        /** Whether the number at hand may be the i-th one of an item. */
        private boolean standsAt(int item, int i) {
            if (item == TOWER) {
                return within(tokenValue, LEAST_BELLS, MOST_BELLS);
            }
            if (item == METHOD) {
                return within(tokenValue, 0, LAST_CHANGE);
            }
            if (item == YEARS) {
                return within(tokenValue, 1, MOST_YEARS);
            }
            if (i == 0) {
                return within(tokenValue, 0, draft.bells - 1);
            }
            if (i == 1) {
                return isKind(tokenValue);
            }
            return item == SLIP ? within(tokenValue, 1, ROWS - 1) : within(tokenValue, 0, MOST_YEARS);
        }

        private void apply(int item) {
            switch (item) {
                case TOWER:
                    draft.begin(told[0]);
                    break;
                case METHOD:
                    System.arraycopy(told, 0, draft.changes, 0, CHANGES);
                    break;
                case SLIP:
                    draft.ropes.putSlip(told[0], told[1], told[2]);
                    break;
                case RINGER:
                    draft.ropes.seat(told[0], told[1], told[2]);
                    break;
                default:
                    draft.ropes.passYears(told[0]);
                    break;
            }
        }

        private void nextToken() {
            tokenStart = skip(tokenEnd, ' ', ' ');
            tokenEnd = tokenStart + 1;
            tokenValue = NONE;
            int c = text.byteAt(tokenStart);
            if (c == NONE) {
                token = END;
                tokenEnd = tokenStart;
            } else if (within(c, 'a', 'z')) {
                token = WORD;
                tokenEnd = skip(tokenStart, 'a', 'z');
                tokenValue = itemSpelled();
            } else if (within(c, '0', '9')) {
                tokenEnd = skip(tokenStart, '0', '9');
                tokenValue = numberSpelled();
                token = tokenValue == NONE ? WRONG : NUMBER;
            } else {
                token = c == ';' ? STOP : WRONG;
            }
        }

        /** The place of the first byte from a start on that is not of these. */
        private int skip(int start, int least, int most) {
            int i = start;
            while (i < text.length && within(text.byteAt(i), least, most)) {
                i++;
            }
            return i;
        }

        private int itemSpelled() {
            for (int item = TOWER; item <= YEARS; item++) {
                if (text.spells(wordOf(item), tokenStart, tokenEnd)) {
                    return item;
                }
            }
            return NONE;
        }

        private static String wordOf(int item) {
            switch (item) {
                case TOWER:
                    return "tower";
                case METHOD:
                    return "method";
                case SLIP:
                    return "slip";
                case RINGER:
                    return "ringer";
                default:
                    return "years";
            }
        }

        /** The number at hand; NONE for a run of three figures or more. */
        private int numberSpelled() {
            if (tokenEnd - tokenStart > 2) {
                return NONE;
            }
            int number = 0;
            for (int i = tokenStart; i < tokenEnd; i++) {
                number = 10 * number + text.byteAt(i) - '0';
            }
            return number;
        }
    }
}
