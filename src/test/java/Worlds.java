/** Objects in some state, made anew by the same calls each time, so that two of them can be compared. */
final class Worlds {
    private Worlds() {
    }

    static SameWrong empty() {
        return new SameWrong();
    }

    /**
     * Seven questions, one struck; four pupils, three of them near one another; answers rubbed out, some of
     * them later than AS OF; sheets 0 to 2 of forms 0 to 2, sheet 3 lost; the latest finding is 4.
     */
    static SameWrong busy() {
        SameWrong x = Check.test("12345?1");
        Check.sits(x, 0, 0, "2234511");
        Check.sits(x, 0, 1, "2334512");
        Check.sits(x, 1, 1, "2334123");
        Check.sits(x, 3, 4, "1231544");
        x.answer(0, 0, 1, 3);
        x.answer(1, 0, 3, 5);
        x.answer(1, 1, 2, 7);
        x.answer(2, 6, 0, 8);
        x.set(0, 5);
        x.set(1, 60);
        x.set(2, 300);
        for (int s = 0; s < 3; s++) {
            x.sheet(s, s, 4 + s);
            x.put(s, s, 0, 1);
            x.put(s, s, 1, 5);
            x.put(s, s, 3, -7 - s);
        }
        x.copy(0, 0, 1, 0, 1);
        return x;
    }

    /** Twelve questions and bytes, ten pupils, 150 tellings (the latest at time 14), a sheet of 48 items. */
    static SameWrong full() {
        SameWrong x = Check.test("123451234512");
        for (int p = 0; p < 10; p++) {
            x.pupil(p / 5, p % 5);
        }
        x.sheet(0, 0, 48);
        for (int i = 0; i < 12; i++) {
            x.put(0, 0, i, 1 + i * 7 % 5);
        }
        for (int i = 0; i < 12; i++) {
            Check.due("full: read " + i, x.read(0, i % 10, i), 12);
        }
        for (int i = 0; i < 6; i++) {
            Check.due("full: answer " + i, x.answer(9, i, 5 - i, 14), 145 + i);
        }
        x.sheet(1, 1, 5);
        x.sheet(2, 2, 12);
        return x;
    }

    /** Ten pupils in two rows of five, all with these answers. */
    static SameWrong tenAlike(String key, String answers) {
        SameWrong x = Check.test(key);
        for (int p = 0; p < 10; p++) {
            x.pupil(p / 5, p % 5);
        }
        x.sheet(0, 0, answers.length());
        for (int q = 0; q < answers.length(); q++) {
            x.put(0, 0, q, answers.charAt(q) - '0');
        }
        for (int p = 0; p < 10; p++) {
            Check.due("ten alike: read", x.read(0, p, 0), answers.length());
        }
        return x;
    }
}
