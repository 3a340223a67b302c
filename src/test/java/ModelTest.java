/** Long runs of mixed calls, each answer compared with the plain model's. */
public final class ModelTest {
    private static final int RUNS = 400;
    private static final int CALLS = 512;

    private final Checks checks = new Checks();
    private long seed;
    private HandedSlips x;
    private Model m;
    private int run;
    private int call;

    public static void main(String[] args) {
        ModelTest test = new ModelTest();
        for (int run = 1; run <= RUNS; run++) {
            test.runOnce(run);
        }
        test.checks.end();
    }

    private void runOnce(int number) {
        run = number;
        seed = 77L * number;
        x = new HandedSlips();
        m = new Model();
        for (call = 1; call <= CALLS; call++) {
            if (number % 3 == 0 && call < 40) {
                setUp();
            } else {
                oneCall(upTo(37));
            }
        }
    }

    /** 0 .. n - 1, always the same for the same run. */
    private int upTo(int n) {
        seed = seed * 6364136223846793005L + 1442695040888963407L;
        return (int) ((seed >>> 33) % n);
    }

    /** Mostly least .. most, at times just beyond, at times far. */
    private int near(int least, int most) {
        int odd = upTo(60);
        if (odd == 0) {
            return least - 1;
        }
        if (odd == 1) {
            return most + 1;
        }
        if (odd == 2) {
            int[] far = {Integer.MIN_VALUE, Integer.MAX_VALUE, -1, -1000, 1000000};
            return far[upTo(far.length)];
        }
        return least + upTo(most - least + 1);
    }

    private int aRope() {
        return near(0, m.s.n - 1);
    }

    private void same(String what, long got, long want) {
        checks.due("run " + run + ", call " + call + ": " + what, got, want);
    }

    private void setUp() {
        if (call <= 6) {
            int c = 1 + upTo(3);
            same("method " + c, x.method(call - 1, c), m.method(call - 1, c));
        } else if (upTo(2) == 0) {
            oneCall(5);
        } else {
            oneCall(7 + upTo(2));
        }
    }

    private void oneCall(int which) {
        if (which < 14) {
            towerCall(which);
        } else if (which < 27) {
            askCall(which);
        } else {
            otherCall(which);
        }
        if (upTo(20) == 0) {
            same("digest", x.digest(), m.digest());
        }
    }

    private void towerCall(int which) {
        int r = aRope();
        int k = near(0, 5);
        switch (which) {
            case 0 -> {
                int n = upTo(4) == 0 ? near(4, 6) : 3;
                same("tower " + n, x.tower(n), m.tower(n));
            }
            case 1 -> {
                int c = near(0, 3);
                same("method " + k + " " + c, x.method(k, c), m.method(k, c));
            }
            case 2 -> typeSome();
            case 3 -> {
                if (upTo(4) == 0) {
                    same("clear", x.clear(), m.clear());
                }
            }
            case 4 -> same("read '" + m.text + "'", x.read(), m.read());
            case 5, 6 -> {
                int row = near(1, upTo(2) == 0 ? 3 : 11);
                same("slips " + r + " " + k + " " + row, x.slips(r, k, row), m.slips(r, k, row));
            }
            case 7 -> same("drops " + r, x.drops(r), m.drops(r));
            case 8 -> same("hands " + r + " " + k, x.hands(r, k), m.hands(r, k));
            case 9, 10 -> {
                int n = near(1, upTo(3) == 0 ? 60 : 4);
                same("year " + n, x.year(n), m.year(n));
            }
            case 11 -> same("undo", x.undo(), m.undo());
            default -> {
                int what = near(0, 4);
                same("of " + r + " " + what, x.of(r, what), m.of(r, what));
            }
        }
    }

    private void askCall(int which) {
        int r = aRope();
        int what = near(0, 1);
        switch (which) {
            case 14, 15 -> {
                int k = near(0, 11);
                same("row " + k + " " + what, x.row(k, what), m.row(k, what));
            }
            case 16 -> same("repeats " + what, x.repeats(what), m.repeats(what));
            case 17 -> same("clash " + what, x.clash(what), m.clash(what));
            case 18 -> same("mend", x.mend(), m.mend());
            case 19 -> {
                if (upTo(8) == 0) {
                    same("compose", x.compose(), m.compose());
                }
            }
            case 20 -> same("when", x.when(), m.when());
            case 21 -> same("clean", x.clean(), m.clean());
            case 22 -> {
                int b = aRope();
                same("lends " + r + " " + b, x.lends(r, b), m.lends(r, b));
            }
            case 23 -> {
                int c = near(0, 10);
                same("odds " + c, x.odds(c), m.odds(c));
                same("above", x.part(0), m.part(0));
                same("below", x.part(1), m.part(1));
            }
            case 24 -> {
                int start = near(0, 999999);
                int n = near(0, 60);
                same("weddings " + start + " " + n, x.weddings(start, n), m.weddings(start, n));
            }
            case 25 -> same("part " + what, x.part(what), m.part(what));
            default -> same("is " + r, x.is(r), m.is(r));
        }
    }

    private void otherCall(int which) {
        int r = aRope();
        int what = near(0, 2);
        switch (which) {
            case 27 -> hearOne();
            case 28 -> {
                same("who " + what, x.who(what), m.who(what));
                same("tell", x.tell(), m.tell());
            }
            case 29 -> {
                int p = near(1, 6);
                int q = upTo(3) == 0 || p < 1 || p > 6 ? near(1, 6) : Model.comesTo(upTo(6), p, 6);
                same("note " + r + " " + p + " " + q, x.note(r, p, q), m.note(r, p, q));
            }
            case 30 -> {
                int y = near(0, upTo(2) == 0 ? 99 : 12);
                int t = near(0, 99);
                int made = near(0, 1);
                same("mark " + r + " " + y + " " + t + " " + made, x.mark(r, y, t, made), m.mark(r, y, t, made));
            }
            case 31 -> {
                if (upTo(3) == 0) {
                    same("forget " + what, x.forget(what), m.forget(what));
                }
            }
            case 32 -> same("look " + r, x.look(r), m.look(r));
            case 33 -> same("kinds " + r, x.kinds(r), m.kinds(r));
            case 34 -> same("ask " + r, x.ask(r), m.ask(r));
            case 35 -> {
                int i = near(0, 1);
                if (upTo(2) == 0) {
                    same("image " + i, x.image(i), m.image(i));
                } else {
                    same("from " + i, x.from(i), m.from(i));
                }
            }
            default -> {
                same("status " + what, x.status(what), m.status(what));
                int many = near(0, 9);
                same("count " + many, x.count(many), m.count(many));
            }
        }
    }

    private void hearOne() {
        int row = near(1, 11);
        int bells = near(1234, 654321);
        if (upTo(8) != 0 && row >= 1 && row <= 11) {
            java.util.List<Integer> sets = new java.util.ArrayList<>();
            for (int r = 0; r < m.s.n; r++) {
                if (m.s.ropes.list.get(r).kind >= 0 && upTo(2) == 0) {
                    sets.add(r);
                }
            }
            bells = Integer.parseInt(Model.rung(m.s.n, m.s.method, m.slipsOf(m.s.ropes, sets)).get(row));
        }
        same("heard " + row + " " + bells, x.heard(row, bells), m.heard(row, bells));
    }

    private void typeSome() {
        if (upTo(3) > 0) {
            same("clear", x.clear(), m.clear());
            typeText(aText());
            same("read '" + m.text + "'", x.read(), m.read());
        } else if (upTo(4) == 0) {
            typeText(aText());
        } else {
            int c = near(0, 127);
            same("type " + c, x.type(c), m.type(c));
        }
    }

    private void typeText(String text) {
        for (char c : text.toCharArray()) {
            same("type " + (int) c, x.type(c), m.type(c));
        }
    }

    /** Mostly a whole tower, at times with a byte put in, lost or changed. */
    private String aText() {
        int n = 4 + upTo(3);
        StringBuilder text = new StringBuilder(gap(0) + "tower" + gap(0) + n + gap(0) + ";");
        int items = upTo(7);
        for (int i = 0; i < items; i++) {
            text.append(anItem(n));
        }
        if (upTo(3) == 0) {
            String odd = "; 0159azt-A" + (char) 127 + (char) 0 + (char) 9;
            int at = upTo(text.length());
            switch (upTo(4)) {
                case 0 -> text.setCharAt(at, odd.charAt(upTo(odd.length())));
                case 1 -> text.insert(at, odd.charAt(upTo(odd.length())));
                case 2 -> text.deleteCharAt(at);
                default -> text.setLength(at);
            }
        }
        return text.length() > 170 ? text.substring(0, 170) : text.toString();
    }

    private String anItem(int n) {
        int r = upTo(25) == 0 ? n : upTo(n);
        int kind = upTo(25) == 0 ? 6 : upTo(6);
        String start = gap(0);
        switch (upTo(4)) {
            case 0 -> {
                StringBuilder method = new StringBuilder(start + "method" + gap(0));
                for (int i = 0; i < 6; i++) {
                    method.append(upTo(60) == 0 ? 4 : upTo(4)).append(gap(i < 5 ? 1 : 0));
                }
                return method + ";";
            }
            case 1 -> {
                int row = upTo(20) == 0 ? upTo(14) : 1 + upTo(11);
                return start + "slip" + gap(0) + r + gap(1) + kind + gap(1) + (upTo(6) == 0 ? "0" : "") + row + gap(0) + ";";
            }
            case 2 -> {
                int y = upTo(20) == 0 ? 100 : upTo(100);
                return start + "ringer" + gap(0) + r + gap(1) + kind + gap(1) + y + ";";
            }
            default -> {
                return start + "years" + gap(0) + (upTo(12) == 0 ? 0 : upTo(3) == 0 ? 99 : 1 + upTo(12)) + gap(0) + ";";
            }
        }
    }

    private String gap(int least) {
        return upTo(8) == 0 ? "  " : upTo(4) == 0 || least == 1 ? " " : "";
    }
}
