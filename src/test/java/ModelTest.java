import java.util.Random;

/** Runs of calls by lots (always the same ones) on the class and on the slow model: both answer alike. */
public final class ModelTest {
    /** With what stands ahead of them and the keys typed anew, a run stays under 512 calls. */
    private static final int STEPS = 300;

    private final Random lots;
    private final SameWrong x = new SameWrong();
    private final SlowModel m = new SlowModel();
    private final int style;
    private int time = 0;
    private String call = "";
    private long got = 0, want = 0;

    private ModelTest(long seed) {
        lots = new Random(seed);
        style = lots.nextInt(4);
    }

    public static void main(String[] args) {
        int runs = args.length > 0 ? Integer.parseInt(args[0]) : 300;
        for (int run = 0; run < runs; run++) {
            new ModelTest(run).play(run);
        }
        Check.end();
    }

    private void play(int run) {
        prepare(run);
        for (int i = 0; i < STEPS; i++) {
            step();
            Check.due("run " + run + ": " + call, got, want);
        }
    }

    private void said(String what, long answer, long model) {
        call = what;
        got = answer;
        want = model;
    }

    /** Most runs begin with a whole key and some pupils, as else most calls would be refused. */
    private void prepare(int run) {
        if (run % 10 == 0) {
            return;
        }
        int n = 1 + lots.nextInt(12);
        Check.due("questions", x.questions(n), m.questions(n));
        for (int q = 0; q < n; q++) {
            int b = lots.nextInt(8) == 0 ? '?' : '1' + lots.nextInt(5);
            Check.due("type", x.type(b), m.type(b));
        }
        int pupils = style == 0 ? 10 : 2 + lots.nextInt(7);
        int[] typical = new int[12];
        for (int q = 0; q < 12; q++) {
            typical[q] = 1 + lots.nextInt(5);
        }
        for (int p = 0; p < pupils; p++) {
            int row = lots.nextInt(style == 1 ? 2 : 4), place = lots.nextInt(style == 1 ? 4 : 5);
            Check.due("pupil", x.pupil(row, place), m.pupil(row, place));
            for (int q = 0; q < n && p < 9; q++) {
                int v = lots.nextInt(3) > 0 ? typical[q] : lots.nextInt(6);
                Check.due("answer", x.answer(p, q, v, time), m.answer(p, q, v, time));
            }
        }
    }

    private int any(int most) {
        int r = lots.nextInt(40);
        if (r == 0) {
            return -1;
        }
        if (r == 1) {
            return most + 1;
        }
        if (r == 2 && lots.nextInt(4) == 0) {
            return Check.ODD_INTS[lots.nextInt(Check.ODD_INTS.length)];
        }
        return lots.nextInt(most + 1);
    }

    private int pupil() {
        return any(Math.max(0, m.count(2) - 1));
    }

    private int question() {
        return any(m.count(0) - 1);
    }

    private int time() {
        int r = lots.nextInt(20);
        if (r == 0) {
            return any(999);
        }
        if (r < 6) {
            time = Math.min(999, time + lots.nextInt(4));
        }
        return time;
    }

    private void step() {
        int kind = lots.nextInt(100);
        if (kind < 30) {
            change();
        } else if (kind < 45) {
            rows();
        } else if (kind < 65) {
            people();
        } else if (kind < 80) {
            together();
        } else if (kind < 95) {
            single();
        } else {
            counts();
        }
    }

    private void change() {
        int kind = lots.nextInt(60);
        if (kind < 44) {
            int p = pupil(), q = question(), v = any(5), t = time();
            said("answer(" + p + ", " + q + ", " + v + ", " + t + ")", x.answer(p, q, v, t), m.answer(p, q, v, t));
        } else if (kind < 48) {
            int row = any(3), place = any(4);
            said("pupil(" + row + ", " + place + ")", x.pupil(row, place), m.pupil(row, place));
        } else if (kind < 56) {
            setting();
        } else if (kind < 58) {
            int n = any(12);
            said("questions(" + n + ")", x.questions(n), m.questions(n));
        } else if (kind < 59) {
            int b = lots.nextInt(4) == 0 ? any(255) : '1' + lots.nextInt(5);
            said("type(" + b + ")", x.type(b), m.type(b));
        } else {
            key();
        }
    }

    private void setting() {
        int what = any(2), v;
        if (what == 0) {
            v = lots.nextInt(2) == 0 ? 999 : any(Math.min(999, time + 1));
        } else {
            v = any(what == 1 ? 100 : 1000);
        }
        said("set(" + what + ", " + v + ")", x.set(what, v), m.set(what, v));
    }

    /** A new whole key, so that a wiped one does not leave all struck for the rest of the run. */
    private void key() {
        said("wipe()", x.wipe(), m.wipe());
        Check.due(call, got, want);
        int n = m.count(0) - (lots.nextInt(10) == 0 ? 1 : 0);
        for (int q = 0; q < n; q++) {
            int b = lots.nextInt(10) == 0 ? '?' : '1' + lots.nextInt(5);
            Check.due("type(" + b + ")", x.type(b), m.type(b));
        }
        said("fault()", x.fault(), m.fault());
    }

    private void rows() {
        int s = any(3), t = any(3), form = any(lots.nextInt(3) == 0 ? 2 : 0), i = any(12), j = any(12);
        switch (lots.nextInt(8)) {
            case 0: {
                int size = lots.nextInt(5) == 0 ? any(48) : any(12);
                said("sheet(" + s + ", " + form + ", " + size + ")", x.sheet(s, form, size), m.sheet(s, form, size));
                break;
            }
            case 1:
                if (lots.nextInt(4) == 0) {
                    said("lose(" + s + ")", x.lose(s), m.lose(s));
                } else {
                    said("count(8)", x.count(8), m.count(8));
                }
                break;
            case 2:
            case 3: {
                int v = lots.nextInt(4) == 0 ? lots.nextInt() : any(5);
                said("put(" + s + ", " + form + ", " + i + ", " + v + ")", x.put(s, form, i, v), m.put(s, form, i, v));
                break;
            }
            case 4:
                said("get(" + s + ", " + form + ", " + i + ")", x.get(s, form, i), m.get(s, form, i));
                break;
            case 5: {
                int n = any(6);
                said("copy(" + s + ", " + i + ", " + t + ", " + j + ", " + n + ")",
                        x.copy(s, i, t, j, n), m.copy(s, i, t, j, n));
                break;
            }
            case 6: {
                int p = pupil();
                said("write(" + p + ", " + s + ")", x.write(p, s), m.write(p, s));
                break;
            }
            default: {
                int p = pupil(), at = time();
                said("read(" + s + ", " + p + ", " + at + ")", x.read(s, p, at), m.read(s, p, at));
            }
        }
    }

    private void people() {
        int a = pupil(), b = pupil(), q = question();
        switch (lots.nextInt(7)) {
            case 0:
                said("said(" + a + ", " + q + ")", x.said(a, q), m.said(a, q));
                break;
            case 1:
                said("beside(" + a + ", " + b + ")", x.beside(a, b), m.beside(a, b));
                break;
            case 2: {
                int what = any(3);
                said("mark(" + a + ", " + what + ")", x.mark(a, what), m.mark(a, what));
                break;
            }
            case 3: {
                int what = any(2);
                said("shared(" + a + ", " + b + ", " + what + ")", x.shared(a, b, what), m.shared(a, b, what));
                break;
            }
            case 4: {
                int what = any(1);
                said("chance(" + a + ", " + b + ", " + what + ")", x.chance(a, b, what), m.chance(a, b, what));
                break;
            }
            case 5:
                said("from(" + a + ", " + b + ")", x.from(a, b), m.from(a, b));
                break;
            default: {
                int what = any(2);
                said("rubbed(" + a + ", " + what + ")", x.rubbed(a, what), m.rubbed(a, what));
            }
        }
    }

    private void together() {
        int bits = lots.nextInt(3) == 0 ? any(1023) : any((1 << m.count(2)) - 1), what = any(1);
        switch (lots.nextInt(7)) {
            case 0: {
                int p = any(100);
                said("known(" + bits + ", " + p + ")", x.known(bits, p), m.known(bits, p));
                break;
            }
            case 1:
                if (m.count(2) < 7 || lots.nextInt(5) == 0) {
                    said("seats(" + what + ")", x.seats(what), m.seats(what));
                } else {
                    said("seats(0)", x.seats(0), m.seats(0));
                }
                break;
            case 2:
                said("sources()", x.sources(), m.sources());
                break;
            case 3:
                said("chain()", x.chain(), m.chain());
                break;
            case 4:
            case 5:
                said("gains(" + bits + ", " + what + ")", x.gains(bits, what), m.gains(bits, what));
                break;
            default: {
                int q = question();
                said("lead(" + q + ", " + bits + ", " + what + ")", x.lead(q, bits, what), m.lead(q, bits, what));
            }
        }
    }

    private void single() {
        int q = question(), what = any(1);
        switch (lots.nextInt(7)) {
            case 0:
                said("key(" + q + ")", x.key(q), m.key(q));
                break;
            case 1: {
                int c = any(5);
                said("rest(" + q + ", " + c + ", " + what + ")", x.rest(q, c, what), m.rest(q, c, what));
                break;
            }
            case 2:
                said("should(" + q + ")", x.should(q), m.should(q));
                break;
            case 3:
                said("badly()", x.badly(), m.badly());
                break;
            case 4:
                said("without(" + q + ", " + what + ")", x.without(q, what), m.without(q, what));
                break;
            case 5:
                said("hard(" + q + ", " + what + ")", x.hard(q, what), m.hard(q, what));
                break;
            default:
                said("parts(" + q + ", " + what + ")", x.parts(q, what), m.parts(q, what));
        }
    }

    private void counts() {
        if (lots.nextInt(3) == 0) {
            said("digest()", x.digest(), m.digest());
        } else {
            int what = any(8);
            said("count(" + what + ")", x.count(what), m.count(what));
        }
    }
}
