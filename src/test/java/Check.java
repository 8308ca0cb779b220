/** Counts and prints answers that are not the ones due; makes tests and pupils from texts. */
final class Check {
    static final long BAD_LONG = Long.MIN_VALUE + 2, NOT_LONG = Long.MIN_VALUE + 3, FULL_LONG = Long.MIN_VALUE + 4;
    static final int[] ODD_INTS = {Integer.MIN_VALUE, Integer.MIN_VALUE + 1, -1000, -1, Integer.MAX_VALUE};

    private static int wrong = 0;
    private static int asked = 0;

    private Check() {
    }

    static void due(String call, long got, long want) {
        asked++;
        if (got != want) {
            wrong++;
            System.out.println(call + " answered " + got + ", due is " + want);
        }
    }

    static void fraction(String call, long above, long below, long wantAbove, long wantBelow) {
        due(call + " above", above, wantAbove);
        due(call + " below", below, wantBelow);
    }

    static void end() {
        System.out.println(asked + " answers, " + wrong + " not as due");
        if (wrong != 0) {
            System.exit(1);
        }
    }

    /** A test with as many questions as the key has bytes. */
    static SameWrong test(String key) {
        SameWrong x = new SameWrong();
        x.questions(key.length());
        type(x, key);
        return x;
    }

    static void type(SameWrong x, String bytes) {
        for (int i = 0; i < bytes.length(); i++) {
            due("type(" + (int) bytes.charAt(i) + ")", x.type(bytes.charAt(i)), i + 1);
        }
    }

    /** A pupil on a seat with answers (figures) to questions 0 on, all told at time 0. */
    static int sits(SameWrong x, int row, int place, String answers) {
        int pupil = x.pupil(row, place);
        due("pupil(" + row + ", " + place + ") is a number", pupil >= 0 ? 1 : 0, 1);
        tells(x, pupil, answers, 0);
        return pupil;
    }

    static void tells(SameWrong x, int pupil, String answers, int time) {
        for (int q = 0; q < answers.length(); q++) {
            int before = x.count(3);
            due("answer(" + pupil + ", " + q + ")", x.answer(pupil, q, answers.charAt(q) - '0', time), before + 1);
        }
    }
}
