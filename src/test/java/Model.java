import java.math.BigInteger;
import java.util.ArrayList;
import java.util.Arrays;
import java.util.HashSet;
import java.util.List;
import java.util.TreeMap;

/** The document once more, as plainly and slowly as it can be said, to compare the class with. */
final class Model {
    static final class Rope {
        int kind = -1, row = -1, ringer = 0, years = 0;

        Rope copy() {
            Rope r = new Rope();
            r.kind = kind;
            r.row = row;
            r.ringer = ringer;
            r.years = years;
            return r;
        }
    }

    /** What UNDO brings back. */
    static final class Ropes {
        final List<Rope> list = new ArrayList<>();
        int year = 0;

        Ropes(int n) {
            for (int i = 0; i < n; i++) {
                list.add(new Rope());
            }
        }

        Ropes copy() {
            Ropes c = new Ropes(0);
            for (Rope r : list) {
                c.list.add(r.copy());
            }
            c.year = year;
            return c;
        }

        boolean made(int r) {
            Rope rope = list.get(r);
            return rope.kind >= 0 && makes(rope.ringer, rope.years, year);
        }

        List<Integer> madeNow() {
            List<Integer> out = new ArrayList<>();
            for (int r = 0; r < list.size(); r++) {
                if (made(r)) {
                    out.add(r);
                }
            }
            return out;
        }

        void goBy() {
            year++;
            for (Rope r : list) {
                r.years = Math.min(99, r.years + 1);
            }
        }
    }

    static final class State {
        int n;
        int[] method = new int[6];
        Ropes ropes;
        List<Ropes> undo = new ArrayList<>();
        List<int[]> heard = new ArrayList<>(), notes = new ArrayList<>(), marks = new ArrayList<>();

        State(int n) {
            this.n = n;
            ropes = new Ropes(n);
        }

        State copy() {
            State s = new State(n);
            s.method = method.clone();
            s.ropes = ropes.copy();
            for (Ropes u : undo) {
                s.undo.add(u.copy());
            }
            s.heard.addAll(heard);
            s.notes.addAll(notes);
            s.marks.addAll(marks);
            return s;
        }

        void remember() {
            undo.add(ropes.copy());
            if (undo.size() > 8) {
                undo.remove(0);
            }
        }
    }

    State s = new State(5);
    State[] images = new State[2];
    String text = "";
    long above = 0, below = 1;
    int[] refusals = new int[3];

    int bad() {
        refusals[0]++;
        return -2;
    }

    int no() {
        refusals[1]++;
        return -3;
    }

    int full() {
        refusals[2]++;
        return -4;
    }

    static boolean in(int v, int lo, int hi) {
        return lo <= v && v <= hi;
    }

    boolean rope(int r) {
        return in(r, 0, s.n - 1);
    }

    // the kinds, each under the one told

    static int comesTo(int kind, int p, int n) {
        switch (kind) {
            case 0:
                return p + 1 > n ? n : p + 1;
            case 1:
                return comesTo(0, p, n) - 2 < 1 ? 1 : comesTo(0, p, n) - 2;
            case 2:
                return comesTo(0, p, n) + 1 > n ? n : comesTo(0, p, n) + 1;
            case 3:
                return comesTo(2, p, n) == n ? n : p;
            case 4:
                return n + 1 - comesTo(1, p, n);
            case 5:
                return comesTo(0, comesTo(0, p, n), n);
            default:
                throw new IllegalStateException();
        }
    }

    static boolean makes(int kind, int y, int t) {
        switch (kind) {
            case 0:
                return true;
            case 1:
                return y >= 3 && makes(0, y, t);
            case 2:
                return t % 5 == 0 ? false : makes(0, y, t);
            case 3:
                return y >= 9 ? makes(1, y, t) : false;
            case 4:
                return y % 2 == 1 ? false : makes(0, y, t);
            case 5:
                return t % 2 == 0 ? makes(2, y, t) : false;
            default:
                throw new IllegalStateException();
        }
    }

    // rows as texts, one figure a bell

    static String changed(String row, int change) {
        char[] c = row.toCharArray();
        int[][] pairs = {{}, {1, 3, 5}, {2, 4}, {1}};
        for (int left : pairs[change]) {
            if (left < c.length) {
                char held = c[left - 1];
                c[left - 1] = c[left];
                c[left] = held;
            }
        }
        return new String(c);
    }

    static List<String> meant(int n, int[] method) {
        List<String> rows = new ArrayList<>();
        rows.add("123456".substring(0, n));
        for (int k = 0; k < 11; k++) {
            rows.add(changed(rows.get(k), method[k % 6]));
        }
        return rows;
    }

    /** Slips are {bell, kind, row}, in the order in which they are made. */
    static List<String> rung(int n, int[] method, List<int[]> slips) {
        List<String> rows = meant(n, method);
        for (int k = 0; k < 12; k++) {
            for (int[] slip : slips) {
                if (slip[2] == k) {
                    StringBuilder row = new StringBuilder(rows.get(k));
                    String bell = "" + slip[0];
                    int place = row.indexOf(bell) + 1;
                    row.deleteCharAt(place - 1);
                    row.insert(comesTo(slip[1], place, n) - 1, bell);
                    rows.set(k, row.toString());
                }
            }
        }
        return rows;
    }

    List<int[]> slipsOf(Ropes ropes, List<Integer> which) {
        List<int[]> out = new ArrayList<>();
        for (int r : which) {
            out.add(new int[] {r + 1, ropes.list.get(r).kind, ropes.list.get(r).row});
        }
        return out;
    }

    List<String> rungNow() {
        return rung(s.n, s.method, slipsOf(s.ropes, s.ropes.madeNow()));
    }

    static boolean isTrue(List<String> rows) {
        return new HashSet<>(rows).size() == 12;
    }

    int astray(List<String> rows) {
        List<String> meant = meant(s.n, s.method);
        int d = 0;
        for (int k = 0; k < 12; k++) {
            d += rows.get(k).equals(meant.get(k)) ? 0 : 1;
        }
        return d;
    }

    static List<Integer> members(int bits) {
        List<Integer> out = new ArrayList<>();
        for (int i = 0; i < 6; i++) {
            if ((bits >> i & 1) == 1) {
                out.add(i);
            }
        }
        return out;
    }

    static int bits(List<Integer> members) {
        int b = 0;
        for (int m : members) {
            b += 1 << m;
        }
        return b;
    }

    // ---- a tower

    int tower(int n) {
        if (!in(n, 4, 6)) {
            return bad();
        }
        int was = s.n;
        s = new State(n);
        return was;
    }

    int method(int k, int c) {
        if (!in(k, 0, 5) || !in(c, 0, 3)) {
            return bad();
        }
        int was = s.method[k];
        s.method[k] = c;
        s.undo.clear();
        return was;
    }

    int type(int c) {
        if (!in(c, 0, 127)) {
            return bad();
        }
        if (text.length() == 150) {
            return full();
        }
        text += (char) c;
        return text.length();
    }

    int clear() {
        int was = text.length();
        text = "";
        return was;
    }

    int read() {
        List<String> tokens = new ArrayList<>();
        List<Integer> places = new ArrayList<>();
        int i = 0;
        while (i < text.length()) {
            int j = i + 1;
            char c = text.charAt(i);
            if (c == ' ') {
                i++;
                continue;
            }
            String set = c >= 'a' && c <= 'z' ? "abcdefghijklmnopqrstuvwxyz" : c >= '0' && c <= '9' ? "0123456789" : "";
            while (j < text.length() && set.indexOf(text.charAt(j)) >= 0) {
                j++;
            }
            tokens.add(text.substring(i, j));
            places.add(i);
            i = j;
        }
        places.add(text.length());
        State t = null;
        int at = 0;
        int items = 0;
        while (at < tokens.size() || items == 0) {
            if (at >= tokens.size()) {
                return -10 - text.length();
            }
            String word = tokens.get(at);
            boolean known = Arrays.asList("tower", "method", "slip", "ringer", "years").contains(word);
            if (!known || word.equals("tower") != (t == null)) {
                return -10 - places.get(at);
            }
            int n = t == null ? 0 : t.n;
            int[][] bounds = word.equals("tower") ? new int[][] {{4, 6}}
                : word.equals("method") ? new int[][] {{0, 3}, {0, 3}, {0, 3}, {0, 3}, {0, 3}, {0, 3}}
                : word.equals("slip") ? new int[][] {{0, n - 1}, {0, 5}, {1, 11}}
                : word.equals("ringer") ? new int[][] {{0, n - 1}, {0, 5}, {0, 99}}
                : new int[][] {{1, 99}};
            int[] v = new int[bounds.length];
            at++;
            for (int b = 0; b < bounds.length; b++, at++) {
                if (at >= tokens.size()) {
                    return -10 - text.length();
                }
                String tok = tokens.get(at);
                if (!tok.matches("[0-9]{1,2}") || !in(Integer.parseInt(tok), bounds[b][0], bounds[b][1])) {
                    return -10 - places.get(at);
                }
                v[b] = Integer.parseInt(tok);
            }
            if (at >= tokens.size()) {
                return -10 - text.length();
            }
            if (!tokens.get(at).equals(";")) {
                return -10 - places.get(at);
            }
            at++;
            items++;
            if (t == null) {
                t = new State(v[0]);
            } else if (word.equals("method")) {
                t.method = v;
            } else if (word.equals("years")) {
                for (int y = 0; y < v[0]; y++) {
                    if (t.ropes.year < 999) {
                        t.ropes.goBy();
                    }
                }
            } else {
                Rope rope = t.ropes.list.get(v[0]);
                if (word.equals("slip")) {
                    rope.kind = v[1];
                    rope.row = v[2];
                } else {
                    rope.ringer = v[1];
                    rope.years = v[2];
                }
            }
        }
        s = t;
        return items;
    }

    // ---- ropes, years

    int slips(int r, int kind, int row) {
        if (!rope(r) || !in(kind, 0, 5) || !in(row, 1, 11)) {
            return bad();
        }
        s.remember();
        Rope rope = s.ropes.list.get(r);
        int had = rope.kind == -1 ? 0 : 1;
        rope.kind = kind;
        rope.row = row;
        return had;
    }

    int drops(int r) {
        if (!rope(r)) {
            return bad();
        }
        Rope rope = s.ropes.list.get(r);
        if (rope.kind == -1) {
            return no();
        }
        s.remember();
        int kind = rope.kind;
        rope.kind = -1;
        rope.row = -1;
        return kind;
    }

    int hands(int r, int kind) {
        if (!rope(r) || !in(kind, 0, 5)) {
            return bad();
        }
        s.remember();
        Rope rope = s.ropes.list.get(r);
        int years = rope.years;
        rope.ringer = kind;
        rope.years = 0;
        return years;
    }

    int year(int n) {
        if (!in(n, 1, 60)) {
            return bad();
        }
        s.remember();
        for (int i = 0; i < n; i++) {
            if (s.ropes.year < 999) {
                s.ropes.goBy();
            }
        }
        return isTrue(rungNow()) ? 1 : 0;
    }

    int undo() {
        if (s.undo.isEmpty()) {
            return no();
        }
        s.ropes = s.undo.remove(s.undo.size() - 1);
        return s.ropes.year;
    }

    int of(int r, int what) {
        if (!rope(r) || !in(what, 0, 4)) {
            return bad();
        }
        Rope rope = s.ropes.list.get(r);
        return new int[] {rope.kind, rope.row, rope.ringer, rope.years, s.ropes.made(r) ? 1 : 0}[what];
    }

    // ---- what is rung

    int row(int k, int what) {
        if (!in(k, 0, 11) || !in(what, 0, 1)) {
            return bad();
        }
        return Integer.parseInt((what == 0 ? meant(s.n, s.method) : rungNow()).get(k));
    }

    int repeats(int what) {
        if (!in(what, 0, 1)) {
            return bad();
        }
        List<String> rows = rungNow();
        for (int k = 1; k < 12; k++) {
            int first = rows.indexOf(rows.get(k));
            if (first < k) {
                return what == 0 ? k : first;
            }
        }
        return -1;
    }

    int clash(int what) {
        if (!in(what, 0, 1)) {
            return bad();
        }
        int[] made = new int[12];
        for (int r : s.ropes.madeNow()) {
            made[s.ropes.list.get(r).row]++;
        }
        int row = 0;
        for (int k = 11; k >= 1; k--) {
            row = made[k] > 0 && made[k] >= made[row] ? k : row;
        }
        return what == 0 ? made[row] : row;
    }

    int mend() {
        List<Integer> made = s.ropes.madeNow();
        for (int many = 0; many <= 6; many++) {
            for (int left = 0; left < 64; left++) {
                if (Integer.bitCount(left) == many && made.containsAll(members(left))) {
                    List<Integer> rest = new ArrayList<>(made);
                    rest.removeAll(members(left));
                    if (isTrue(rung(s.n, s.method, slipsOf(s.ropes, rest)))) {
                        return left;
                    }
                }
            }
        }
        return -1;
    }

    int compose() {
        List<int[]> slips = slipsOf(s.ropes, s.ropes.madeNow());
        for (int code = 0; code < 729; code++) {
            int[] m = new int[6];
            int number = 0;
            for (int i = 0, rest = code, by = 243; i < 6; i++, rest %= by, by /= 3) {
                m[i] = rest / by + 1;
                number = number * 10 + m[i];
            }
            if (isTrue(rung(s.n, m, slips))) {
                return number;
            }
        }
        return -1;
    }

    int when() {
        Ropes later = s.ropes.copy();
        for (int d = 0; d <= 60; d++, later.goBy()) {
            if (isTrue(rung(s.n, s.method, slipsOf(later, later.madeNow())))) {
                return d;
            }
        }
        return -1;
    }

    int clean() {
        List<Integer> clean = members((1 << s.n) - 1);
        clean.removeAll(s.ropes.madeNow());
        return bits(clean);
    }

    // ---- who it was

    int heard(int r, int bells) {
        char[] figures = ("" + bells).toCharArray();
        Arrays.sort(figures);
        if (!in(r, 1, 11) || !new String(figures).equals("123456".substring(0, s.n))) {
            return bad();
        }
        if (s.heard.size() == 4) {
            return full();
        }
        s.heard.add(new int[] {r, bells});
        return s.heard.size();
    }

    List<Integer> sets() {
        List<Integer> out = new ArrayList<>();
        for (int b = 0; b < 64; b++) {
            boolean fits = true;
            for (int r : members(b)) {
                fits &= r < s.n && s.ropes.list.get(r).kind >= 0;
            }
            if (fits) {
                List<String> rows = rung(s.n, s.method, slipsOf(s.ropes, members(b)));
                for (int[] h : s.heard) {
                    fits &= rows.get(h[0]).equals("" + h[1]);
                }
            }
            if (fits) {
                out.add(b);
            }
        }
        return out;
    }

    int who(int what) {
        if (!in(what, 0, 2)) {
            return bad();
        }
        List<Integer> sets = sets();
        if (what == 0) {
            return sets.size();
        }
        int all = 63;
        int some = 0;
        for (int b : sets) {
            all &= b;
            some |= b;
        }
        return what == 2 ? some : sets.isEmpty() ? -1 : all;
    }

    int tell() {
        int best = -1;
        int fewest = Integer.MAX_VALUE;
        List<Integer> sets = sets();
        for (int k = 1; k < 12 && !sets.isEmpty(); k++) {
            TreeMap<String, Integer> tally = new TreeMap<>();
            for (int b : sets) {
                tally.merge(rung(s.n, s.method, slipsOf(s.ropes, members(b))).get(k), 1, Integer::sum);
            }
            int most = new ArrayList<>(tally.values()).stream().max(Integer::compare).get();
            if (most < fewest) {
                fewest = most;
                best = k;
            }
        }
        return best;
    }

    int note(int r, int p, int q) {
        if (!rope(r) || !in(p, 1, 6) || !in(q, 1, 6)) {
            return bad();
        }
        if (s.notes.size() == 6) {
            return full();
        }
        s.notes.add(new int[] {r, p, q});
        return s.notes.size();
    }

    int mark(int r, int y, int t, int made) {
        if (!rope(r) || !in(y, 0, 99) || !in(t, 0, 99) || !in(made, 0, 1)) {
            return bad();
        }
        if (s.marks.size() == 6) {
            return full();
        }
        s.marks.add(new int[] {r, y, t, made});
        return s.marks.size();
    }

    int forget(int what) {
        if (!in(what, 0, 2)) {
            return bad();
        }
        List<List<int[]>> all = new ArrayList<>();
        all.add(s.heard);
        all.add(s.notes);
        all.add(s.marks);
        int was = all.get(what).size();
        all.get(what).clear();
        return was;
    }

    List<Integer> slipKinds(int r) {
        List<Integer> out = new ArrayList<>();
        for (int kind = 0; kind < 6; kind++) {
            boolean fits = true;
            for (int[] note : s.notes) {
                fits &= note[0] != r || comesTo(kind, note[1], 6) == note[2];
            }
            if (fits) {
                out.add(kind);
            }
        }
        return out;
    }

    List<Integer> ringerKinds(int r) {
        List<Integer> out = new ArrayList<>();
        for (int kind = 0; kind < 6; kind++) {
            boolean fits = true;
            for (int[] mark : s.marks) {
                fits &= mark[0] != r || makes(kind, mark[1], mark[2]) == (mark[3] == 1);
            }
            if (fits) {
                out.add(kind);
            }
        }
        return out;
    }

    int is(int r) {
        return rope(r) ? bits(slipKinds(r)) : bad();
    }

    int look(int r) {
        if (!rope(r)) {
            return bad();
        }
        int best = -1;
        int fewest = Integer.MAX_VALUE;
        for (int p = 1; p <= 6 && !slipKinds(r).isEmpty(); p++) {
            int most = 0;
            for (int to = 1; to <= 6; to++) {
                int alike = 0;
                for (int kind : slipKinds(r)) {
                    alike += comesTo(kind, p, 6) == to ? 1 : 0;
                }
                most = Math.max(most, alike);
            }
            if (most < fewest) {
                fewest = most;
                best = p;
            }
        }
        return best;
    }

    int kinds(int r) {
        return rope(r) ? bits(ringerKinds(r)) : bad();
    }

    int ask(int r) {
        if (!rope(r)) {
            return bad();
        }
        int best = -1;
        int fewest = Integer.MAX_VALUE;
        for (int code = 0; code <= 909 && !ringerKinds(r).isEmpty(); code++) {
            if (code % 100 > 9) {
                continue;
            }
            int[] parts = new int[2];
            for (int kind : ringerKinds(r)) {
                parts[makes(kind, code % 100, code / 100) ? 1 : 0]++;
            }
            if (Math.max(parts[0], parts[1]) < fewest) {
                fewest = Math.max(parts[0], parts[1]);
                best = code;
            }
        }
        return best;
    }

    /** What a and b get: {a, b}. */
    int[] gains(int a, int b, boolean aLends, boolean bLends) {
        List<int[]> slips = new ArrayList<>();
        for (int r = 0; r < s.n; r++) {
            Rope rope = s.ropes.list.get(r);
            if (r == a || r == b || s.ropes.made(r)) {
                int bell = r == a && aLends ? b : r == b && bLends ? a : r;
                slips.add(new int[] {bell + 1, rope.kind, rope.row});
            }
        }
        List<String> rows = rung(s.n, s.method, slips);
        List<String> meant = meant(s.n, s.method);
        int[] out = new int[2];
        for (int k = 0; k < 12; k++) {
            out[0] += rows.get(k).indexOf("" + (a + 1)) != meant.get(k).indexOf("" + (a + 1)) ? 1 : 0;
            out[1] += rows.get(k).indexOf("" + (b + 1)) != meant.get(k).indexOf("" + (b + 1)) ? 1 : 0;
        }
        out[0] -= (aLends ? 1 : 0) + (bLends ? 2 : 0);
        out[1] -= (bLends ? 1 : 0) + (aLends ? 2 : 0);
        return out;
    }

    int lends(int a, int b) {
        if (!rope(a) || !rope(b) || a == b) {
            return bad();
        }
        if (s.ropes.list.get(a).kind < 0 || s.ropes.list.get(b).kind < 0) {
            return no();
        }
        int rest = 0;
        for (int pair = 0; pair < 4; pair++) {
            boolean aLends = pair == 1 || pair == 3;
            boolean bLends = pair == 2 || pair == 3;
            boolean aStays = gains(a, b, !aLends, bLends)[0] <= gains(a, b, aLends, bLends)[0];
            boolean bStays = gains(a, b, aLends, !bLends)[1] <= gains(a, b, aLends, bLends)[1];
            rest += aStays && bStays ? 1 << pair : 0;
        }
        return rest;
    }

    int odds(int c) {
        if (!in(c, 0, 10)) {
            return bad();
        }
        List<Integer> made = s.ropes.madeNow();
        BigInteger sum = BigInteger.ZERO;
        BigInteger whole = BigInteger.TEN.pow(made.size());
        for (int pick = 0; pick < 1 << made.size(); pick++) {
            BigInteger weight = BigInteger.ONE;
            List<Integer> done = new ArrayList<>();
            for (int i = 0; i < made.size(); i++) {
                boolean makes = (pick >> i & 1) == 1;
                weight = weight.multiply(BigInteger.valueOf(makes ? 10 - c : c));
                if (makes) {
                    done.add(made.get(i));
                }
            }
            if (isTrue(rung(s.n, s.method, slipsOf(s.ropes, done)))) {
                sum = sum.add(weight);
            }
        }
        BigInteger g = sum.gcd(whole);
        above = sum.divide(g).longValueExact();
        below = whole.divide(g).longValueExact();
        return 1;
    }

    int weddings(int seed, int n) {
        if (!in(seed, 0, 999999) || !in(n, 0, 60)) {
            return bad();
        }
        BigInteger x = BigInteger.valueOf(seed);
        Ropes later = s.ropes.copy();
        int total = 0;
        for (int i = 0; i < n; i++, later.goBy()) {
            x = x.multiply(BigInteger.valueOf(1103515245)).add(BigInteger.valueOf(12345)).mod(BigInteger.TWO.pow(31));
            int rope = x.shiftRight(16).mod(BigInteger.valueOf(6)).intValue();
            int kind = x.shiftRight(20).mod(BigInteger.valueOf(6)).intValue();
            if (rope < s.n) {
                later.list.get(rope).ringer = kind;
                later.list.get(rope).years = 0;
            }
            total += astray(rung(s.n, s.method, slipsOf(later, later.madeNow())));
        }
        return total;
    }

    // ---- what there is

    long part(int what) {
        return what == 0 ? above : what == 1 ? below : bad();
    }

    int image(int i) {
        if (!in(i, 0, 1)) {
            return bad();
        }
        images[i] = s.copy();
        return 1;
    }

    int from(int i) {
        if (!in(i, 0, 1)) {
            return bad();
        }
        if (images[i] == null) {
            return no();
        }
        s = images[i].copy();
        return 1;
    }

    int status(int what) {
        if (!in(what, 0, 2)) {
            bad();
            return -1;
        }
        return refusals[what];
    }

    int count(int what) {
        if (!in(what, 0, 9)) {
            return bad();
        }
        int slips = 0;
        for (Rope r : s.ropes.list) {
            slips += r.kind >= 0 ? 1 : 0;
        }
        return new int[] {s.n, slips, s.ropes.madeNow().size(), s.ropes.year, astray(rungNow()), s.heard.size(),
            s.notes.size(), s.marks.size(), s.undo.size(), text.length()}[what];
    }

    long digest() {
        List<Long> v = new ArrayList<>();
        for (int i = 0; i < 10; i++) {
            v.add((long) count(i));
        }
        for (int c : s.method) {
            v.add((long) c);
        }
        for (Rope r : s.ropes.list) {
            v.addAll(List.of((long) r.kind, (long) r.row, (long) r.ringer, (long) r.years));
        }
        for (List<int[]> told : List.of(s.heard, s.notes, s.marks)) {
            for (int[] one : told) {
                for (int number : one) {
                    v.add((long) number);
                }
            }
        }
        v.add(above);
        v.add(below);
        long h = 1549;
        for (long one : v) {
            h = 31 * h + one;
        }
        return h;
    }
}
