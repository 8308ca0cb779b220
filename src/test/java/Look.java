/**
 * All that an object tells of itself, as a text with a line for each answer; count(8) is left out.
 * Looking changes the object, so it comes last; it keeps well under the 512 calls of an object.
 */
final class Look {
    private static final int MOST_CALLS = 400;

    private final SameWrong x;
    private final StringBuilder text = new StringBuilder();
    private int calls = 0;

    private Look(SameWrong x) {
        this.x = x;
    }

    static String at(SameWrong x) {
        Look look = new Look(x);
        int pupils = x.count(2);
        look.asItIs(pupils);
        look.settings();
        for (int s = 0; s < 4; s++) {
            look.sheet(s);
        }
        look.key();
        look.told(pupils);
        look.latestTime();
        look.seats();
        Check.due("a look takes few calls: " + look.calls, Math.max(look.calls, MOST_CALLS), MOST_CALLS);
        return look.text.toString();
    }

    private long tell(String call, long answer) {
        calls++;
        text.append(call).append(" is ").append(answer).append('\n');
        return answer;
    }

    private void asItIs(int pupils) {
        for (int what = 0; what < 8; what++) {
            tell("count " + what, x.count(what));
        }
        tell("fault", x.fault());
        tell("digest", x.digest());
        for (int p = 1; p < pupils; p++) {
            tell("beside of " + p + " and the one ahead", x.beside(p - 1, p));
        }
    }

    private void settings() {
        tell("as of", x.set(0, 999));
        tell("pass", x.set(1, 0));
        tell("limit", x.set(2, 0));
    }

    private void sheet(int s) {
        int form = -1;
        for (int f = 0; f < 3; f++) {
            calls += 2;
            x.get(s, f, -1);
            form = x.count(8) == 2 ? f : form;
        }
        tell("form of sheet " + s, x.count(8) == 1 ? -2 : form);
        int size = 0;
        for (int step = 32; step > 0; step /= 2) {
            calls++;
            size += x.copy(s, size + step, s, 0, 0) == 1 ? step : 0;
        }
        for (int i = 0; i < size; i++) {
            tell("item " + i + " of sheet " + s, x.get(s, form, i));
        }
        tell("size of sheet " + s, x.lose(s));
    }

    private void key() {
        for (int n = 1; n <= 12; n++) {
            calls += 2;
            x.questions(n);
            boolean whole = tell("fault with " + n, x.fault()) == SameWrong.NONE;
            for (int q = 0; whole && q < n; q++) {
                tell("key of " + q, x.key(q));
            }
        }
        tell("wipe", x.wipe());
    }

    private void told(int pupils) {
        for (int p = 0; p < pupils; p++) {
            for (int q = 0; q < 12; q++) {
                tell("said by " + p + " to " + q, x.said(p, q));
            }
            tell("rubbed by " + p, x.rubbed(p, 0));
        }
    }

    /** To read an empty sheet tells nothing, but a time less than the latest is refused. */
    private void latestTime() {
        x.sheet(0, 0, 0);
        int first = 0, above = 1000;
        for (int step = 0; step < 10 && first < above; step++) {
            int middle = (first + above) / 2;
            calls++;
            if (x.read(0, 0, middle) == SameWrong.BAD) {
                first = middle + 1;
            } else {
                above = middle;
            }
        }
        tell("first time that is taken", first);
    }

    private void seats() {
        for (int seat = 0; seat < 20; seat++) {
            tell("pupil on seat " + seat, x.pupil(seat / 5, seat % 5));
        }
    }
}
