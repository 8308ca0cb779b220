/** Every sentence on single questions that names a boundary, promises 24 to 29. */
public final class QuestionBoundsTest {
    private static final int NONE = -1, BAD = -2;
    private static final String TWELVE = "111111111111";

    private QuestionBoundsTest() {
    }

    public static void main(String[] args) {
        Check.runPromises(QuestionBoundsTest.class, 24, 29);
        Check.end();
    }

    private static void due(String call, long got, long want) {
        Check.due(call, got, want);
    }

    /** Pupils on the seats in their order, with these answers. */
    private static SameWrong pupils(String key, String... answers) {
        SameWrong x = Check.test(key);
        for (int p = 0; p < answers.length; p++) {
            Check.sits(x, p / 5, p % 5, answers[p]);
        }
        return x;
    }

    private static void rest(String what, SameWrong x, int question, int choice, long above, long below) {
        Check.fraction(what, x.rest(question, choice, 0), x.rest(question, choice, 1), above, below);
    }

    private static void hard(String what, SameWrong x, int question, long above, long below) {
        Check.fraction(what, x.hard(question, 0), x.hard(question, 1), above, below);
    }

    private static void parts(String what, SameWrong x, int question, long above, long below) {
        Check.fraction(what, x.parts(question, 0), x.parts(question, 1), above, below);
    }

    private static SameWrong busyWithAFault() {
        SameWrong x = Worlds.busy();
        x.type('1');
        return x;
    }

    // ---- promise 24: "MEAN REST: above, below. BAD; NOT."

    static void promise24RestTakesQuestionsThatAreThere() {
        Refused.outside("question", Worlds::busy, 0, 6, Check.BAD_LONG, (x, q) -> x.rest(q, 1, 0));
        Refused.outside("question", Worlds::full, 0, 11, Check.BAD_LONG, (x, q) -> x.rest(q, 1, 1));
        Refused.outside("question", Worlds::empty, 0, 9, Check.BAD_LONG, (x, q) -> x.rest(q, 1, 0));
    }

    /** "of a CHOICE (1 to 5)": 0 is none. */
    static void promise24RestTakesChoices1To5() {
        Refused.outside("choice", Worlds::busy, 1, 5, Check.BAD_LONG, (x, c) -> x.rest(0, c, 0));
        Refused.outside("choice", Worlds::empty, 1, 5, Check.BAD_LONG, (x, c) -> x.rest(0, c, 1));
        SameWrong x = pupils("11", "11", "21", "30", "41", "51", "01");
        long[] want = {1, 1, 0, 1, 1};
        for (int c = 1; c <= 5; c++) {
            rest("choice " + c, x, 0, c, want[c - 1], 1);
        }
        due("choice 0", x.rest(0, 0, 0), Check.BAD_LONG);
        due("choice 6", x.rest(0, 6, 0), Check.BAD_LONG);
    }

    static void promise24RestTakesWhat0To1() {
        Refused.outside("what", Worlds::busy, 0, 1, Check.BAD_LONG, (x, what) -> x.rest(0, 1, what));
    }

    /** "NOT: none did" */
    static void promise24RestNotIfNoneChoseIt() {
        for (int what = 0; what <= 1; what++) {
            int w = what;
            for (int choice = 1; choice <= 5; choice++) {
                int c = choice;
                Refused.call("no pupils, choice " + c, Worlds::empty, Check.NOT_LONG, x -> x.rest(0, c, w));
                Refused.call("no answers, choice " + c, () -> pupils("1", "0"), Check.NOT_LONG, x -> x.rest(0, c, w));
            }
            Refused.call("another choice", Worlds::busy, Check.NOT_LONG, x -> x.rest(0, 5, w));
        }
        SameWrong x = pupils("1", "2");
        x.answer(0, 0, 0, 1);
        due("taken back", x.rest(0, 2, 0), Check.NOT_LONG);
        x.set(0, 0);
        rest("as of before", x, 0, 2, 0, 1);
    }

    static void promise24RestBadAheadOfNot() {
        Refused.call("what", Worlds::empty, Check.BAD_LONG, x -> x.rest(0, 1, 2));
        Refused.call("what -1", Worlds::empty, Check.BAD_LONG, x -> x.rest(0, 1, -1));
        Refused.call("choice", Worlds::empty, Check.BAD_LONG, x -> x.rest(0, 0, 0));
        Refused.call("question", Worlds::empty, Check.BAD_LONG, x -> x.rest(10, 1, 0));
    }

    /** "REST .. MARK without that QUESTION": the least and the most, of one and of ten. */
    static void promise24RestFromNoneToAll() {
        rest("one has it alone", pupils("11", "10"), 0, 1, 0, 1);
        rest("one has all", pupils(TWELVE, TWELVE), 11, 1, 11, 1);
        rest("one has all others", pupils(TWELVE, "211111111111"), 0, 2, 11, 1);
        SameWrong x = Worlds.tenAlike(TWELVE, TWELVE);
        rest("ten have all", x, 0, 1, 11, 1);
        x.answer(9, 11, 2, 1);
        rest("one has not the last", x, 0, 1, 109, 10);
        rest("all but one at the last", x, 11, 1, 11, 1);
        rest("that one at the last", x, 11, 2, 11, 1);
    }

    /** Of a STRUCK QUESTION it is the whole MARK; with a FAULT nothing is RIGHT. */
    static void promise24RestOfAStruckQuestion() {
        SameWrong x = pupils("11?", "113", "103", "003");
        rest("struck", x, 2, 3, 1, 1);
        x.type('1');
        rest("a fault", x, 2, 3, 0, 1);
        rest("a fault, another", x, 0, 1, 0, 1);
    }

    static void promise24RestInLowestTerms() {
        SameWrong x = pupils("111", "211", "210", "200", "200");
        rest("3 by 4", x, 0, 2, 3, 4);
        x.answer(3, 1, 1, 0);
        rest("4 by 4", x, 0, 2, 1, 1);
        x.answer(0, 0, 3, 0);
        rest("2 by 3", x, 0, 2, 2, 3);
        x.answer(3, 0, 4, 0);
        rest("1 by 2", x, 0, 2, 1, 2);
    }

    // ---- promise 25: "SHOULD; NONE. BAD."

    static void promise25ShouldTakesQuestionsThatAreThere() {
        Refused.outside("question", Worlds::busy, 0, 6, BAD, SameWrong::should);
        Refused.outside("question", Worlds::full, 0, 11, BAD, SameWrong::should);
        Refused.outside("question", Worlds::empty, 0, 9, BAD, SameWrong::should);
    }

    /** "NONE: no one chose any" */
    static void promise25ShouldBeNone() {
        due("no pupils", Check.test("1").should(0), NONE);
        due("no key", new SameWrong().should(0), NONE);
        SameWrong x = pupils("11", "01", "01");
        due("no one chose", x.should(0), NONE);
        x.answer(1, 0, 5, 0);
        due("one chose", x.should(0), 5);
        x.answer(1, 0, 0, 0);
        due("taken back", x.should(0), NONE);
    }

    static void promise25ShouldBeEachChoice() {
        for (int c = 1; c <= 5; c++) {
            due("one chose " + c, pupils("1", String.valueOf(c)).should(0), c);
            due("struck, one chose " + c, pupils("?", String.valueOf(c)).should(0), c);
        }
    }

    /** "with the greatest MEAN REST": the mean, neither the sum nor how many. */
    static void promise25ShouldBeTheGreatestMean() {
        due("2 by 1 and 3 by 2", pupils("1111", "2110", "1110", "1100").should(0), 2);
        due("1 by 1 and 9 by 9", pupils("11", "21", "31", "31", "31").should(0), 3);
        due("1 by 2 and 2 by 3", pupils("111", "210", "200", "310", "310", "300").should(0), 3);
        due("2 by 3 and 1 by 2", pupils("111", "310", "300", "210", "210", "200").should(0), 2);
    }

    /** "of like ones the one more chose, of like ones the least" */
    static void promise25ShouldOfLikeOnes() {
        due("more chose the last", pupils("11", "41", "51", "51").should(0), 5);
        due("more chose the first", pupils("11", "41", "41", "51").should(0), 4);
        due("as many, the least", pupils("11", "51", "41").should(0), 4);
        due("as many, the least of five", pupils("11", "50", "40", "30", "20", "10").should(0), 1);
        due("1 by 2 and 2 by 4", pupils("111", "210", "200", "510", "510", "500", "500").should(0), 5);
    }

    /** "(STRUCK or not)" */
    static void promise25ShouldOfAStruckQuestion() {
        SameWrong x = pupils("1?", "12", "23", "23");
        due("struck", x.should(1), 2);
        x.type('1');
        due("a fault: more chose", x.should(1), 3);
        due("a fault: more chose, another", x.should(0), 2);
    }

    // ---- promise 26: "BADLY KEYED, as bits."

    static void promise26BadlyOfNone() {
        due("new", new SameWrong().badly(), 0);
        due("no pupils", Check.test("12").badly(), 0);
        due("no one chose any", pupils("12", "00").badly(), 0);
        due("as keyed", pupils("12", "12").badly(), 0);
    }

    /** From bit 0 to bit 11. */
    static void promise26BadlyFromTheFirstToTheLast() {
        for (int q = 0; q < 12; q++) {
            SameWrong x = Check.test(TWELVE);
            x.pupil(0, 0);
            x.answer(0, q, 2, 0);
            due("question " + q, x.badly(), 1 << q);
        }
        due("all", Worlds.tenAlike(TWELVE, "222222222222").badly(), 4095);
    }

    /** "that are not STRUCK" */
    static void promise26BadlyOfNoStruckQuestion() {
        SameWrong x = pupils("1?1", "222");
        due("one is struck", x.badly(), 0b101);
        x.type('1');
        due("a fault", x.badly(), 0);
    }

    /** As SHOULD takes of like ones: THE KEY's own CHOICE is no better than others. */
    static void promise26BadlyOfLikeOnes() {
        due("as many, the key's is less", pupils("2", "2", "3").badly(), 0);
        due("as many, the key's is more", pupils("3", "2", "3").badly(), 1);
        due("more chose the key's", pupils("3", "2", "3", "3").badly(), 0);
        due("more chose another", pupils("2", "2", "3", "3").badly(), 1);
    }

    // ---- promise 27: "WITHOUT: RANKS (what = 0), who PASSES (1). BAD."

    static void promise27WithoutTakesQuestionsThatAreThere() {
        for (int what = 0; what <= 1; what++) {
            int w = what;
            Refused.outside("question", Worlds::busy, 0, 6, BAD, (x, q) -> x.without(q, w));
            Refused.outside("question", Worlds::full, 0, 11, BAD, (x, q) -> x.without(q, w));
        }
    }

    static void promise27WithoutTakesWhat0To1() {
        Refused.outside("what", Worlds::busy, 0, 1, BAD, (x, what) -> x.without(0, what));
        Refused.outside("what", Worlds::empty, 0, 1, BAD, (x, what) -> x.without(9, what));
    }

    static void promise27WithoutOfNone() {
        SameWrong x = Check.test("1");
        due("no pupils, ranks", x.without(0, 0), 0);
        due("no pupils, passes", x.without(0, 1), 0);
        x.pupil(0, 0);
        due("one, ranks", x.without(0, 0), 0);
    }

    /** With one that is STRUCK already nothing is another. */
    static void promise27WithoutAStruckQuestion() {
        SameWrong x = pupils("1?1", "121", "020", "111");
        due("ranks", x.without(1, 0), 0);
        due("passes", x.without(1, 1), 0);
        x.type('1');
        due("a fault, ranks", x.without(0, 0), 0);
        due("a fault, passes", x.without(0, 1), 0);
    }

    /** "of how many whether they PASS": with none left all PASS, as 0 is at least 0. */
    static void promise27WithoutTheOnlyQuestion() {
        SameWrong x = Worlds.tenAlike("1", "2");
        due("passes", x.without(0, 1), 10);
        due("ranks", x.without(0, 0), 0);
        x.set(1, 0);
        due("passes by 0", x.without(0, 1), 0);
        x.set(1, 100);
        x.answer(0, 0, 1, 0);
        due("passes, one has it", x.without(0, 1), 9);
        due("ranks, one has it", x.without(0, 0), 9);
    }

    static void promise27WithoutAtTheEdgeOfPass() {
        // by 50: of four 2, 1, 2; without 0 of three 1, 1, 2
        SameWrong x = pupils("1111", "1100", "0100", "0110");
        due("without 0", x.without(0, 1), 1);
        // without 1: 1, 0, 1 of three
        due("without 1", x.without(1, 1), 2);
        // without 3: 2, 1, 2 of three
        due("without 3", x.without(3, 1), 0);
        x.set(1, 33);
        due("without 3 by 33", x.without(3, 1), 1);
        x.set(1, 34);
        due("without 3 by 34", x.without(3, 1), 0);
    }

    static void promise27WithoutRanksOfOthers() {
        SameWrong x = pupils("111", "100", "100", "011", "100", "100", "100", "100", "100", "100", "100");
        // 1, 1, 2, 1 ..: without 0: 0, 0, 2, 0 .., without 1: 1, 1, 1, 1 ..
        due("without 0", x.without(0, 0), 0);
        due("without 1", x.without(1, 0), 9);
        x.answer(2, 0, 1, 0);
        x.answer(2, 1, 0, 0);
        x.answer(2, 2, 0, 0);
        x.answer(0, 0, 0, 0);
        // 0, 1, 1, 1 ..: without 0 all have none
        due("only that of the worst", x.without(0, 0), 1);
    }

    // ---- promise 28: "HARD: above, below. BAD; NOT: no PUPILS, or it is STRUCK."

    static void promise28HardTakesQuestionsThatAreThere() {
        for (int what = 0; what <= 1; what++) {
            int w = what;
            Refused.outside("question", Worlds::busy, 0, 6, Check.BAD_LONG, (x, q) -> x.hard(q, w));
            Refused.outside("question", Worlds::full, 0, 11, Check.BAD_LONG, (x, q) -> x.hard(q, w));
        }
    }

    static void promise28HardTakesWhat0To1() {
        Refused.outside("what", Worlds::busy, 0, 1, Check.BAD_LONG, (x, what) -> x.hard(0, what));
    }

    static void promise28HardNotWithoutPupils() {
        for (int what = 0; what <= 1; what++) {
            int w = what;
            Refused.call("no pupils", () -> Check.test("1"), Check.NOT_LONG, x -> x.hard(0, w));
        }
        SameWrong x = pupils("1", "0");
        hard("one", x, 0, 0, 1);
    }

    static void promise28HardNotIfStruck() {
        for (int what = 0; what <= 1; what++) {
            int w = what;
            Refused.call("struck", Worlds::busy, Check.NOT_LONG, x -> x.hard(5, w));
            Refused.call("a fault", QuestionBoundsTest::busyWithAFault, Check.NOT_LONG, x -> x.hard(0, w));
            Refused.call("neither", Worlds::empty, Check.NOT_LONG, x -> x.hard(0, w));
        }
    }

    static void promise28HardBadAheadOfNot() {
        Refused.outside("what, no pupils", Worlds::empty, 0, 1, Check.BAD_LONG, (x, what) -> x.hard(0, what));
        Refused.outside("what, struck", Worlds::busy, 0, 1, Check.BAD_LONG, (x, what) -> x.hard(5, what));
        Refused.outside("question, no pupils", Worlds::empty, 0, 9, Check.BAD_LONG, (x, q) -> x.hard(q, 0));
    }

    /** "the share of PUPILS who have a QUESTION RIGHT", in lowest terms: from 0 by 1 to 1 by 1. */
    static void promise28HardFromNoneToAll() {
        long[][] want = {{0, 1}, {1, 10}, {1, 5}, {3, 10}, {2, 5}, {1, 2}, {3, 5}, {7, 10}, {4, 5}, {9, 10}, {1, 1}};
        SameWrong x = Worlds.tenAlike(TWELVE, "000000000002");
        for (int right = 0; right <= 10; right++) {
            hard(right + " of ten", x, 11, want[right][0], want[right][1]);
            if (right < 10) {
                x.answer(right, 11, 1, 0);
            }
        }
    }

    // ---- promise 29: "PARTS: above, below. BAD; NOT."

    static void promise29PartsTakesQuestionsThatAreThere() {
        for (int what = 0; what <= 1; what++) {
            int w = what;
            Refused.outside("question", Worlds::busy, 0, 6, Check.BAD_LONG, (x, q) -> x.parts(q, w));
            Refused.outside("question", Worlds::full, 0, 11, Check.BAD_LONG, (x, q) -> x.parts(q, w));
        }
    }

    static void promise29PartsTakesWhat0To1() {
        Refused.outside("what", Worlds::busy, 0, 1, Check.BAD_LONG, (x, what) -> x.parts(0, what));
    }

    /** "NOT: fewer than two PUPILS" */
    static void promise29PartsNotOfFewerThanTwo() {
        for (int what = 0; what <= 1; what++) {
            int w = what;
            Refused.call("none", () -> Check.test("1"), Check.NOT_LONG, x -> x.parts(0, w));
            Refused.call("one", () -> pupils("1", "1"), Check.NOT_LONG, x -> x.parts(0, w));
        }
        parts("two", pupils("1", "1", "0"), 0, 1, 1);
    }

    /** "or it is STRUCK" */
    static void promise29PartsNotIfStruck() {
        for (int what = 0; what <= 1; what++) {
            int w = what;
            Refused.call("struck", Worlds::busy, Check.NOT_LONG, x -> x.parts(5, w));
            Refused.call("a fault", QuestionBoundsTest::busyWithAFault, Check.NOT_LONG, x -> x.parts(0, w));
        }
    }

    static void promise29PartsBadAheadOfNot() {
        Refused.outside("what, no pupils", Worlds::empty, 0, 1, Check.BAD_LONG, (x, what) -> x.parts(0, what));
        Refused.outside("what, struck", Worlds::busy, 0, 1, Check.BAD_LONG, (x, what) -> x.parts(5, what));
        Refused.outside("question, no pupils", Worlds::empty, 0, 9, Check.BAD_LONG, (x, q) -> x.parts(q, 0));
    }

    /** "half, cut, of PUPILS": with an odd number the one in the middle is in neither. */
    static void promise29PartsOfTwoToTen() {
        long[] halves = {1, 1, 2, 2, 3, 3, 4, 4, 5};
        for (int many = 2; many <= 10; many++) {
            // all alike in REST, so the order is that of the numbers: the first one alone has it
            SameWrong x = Check.test("11");
            for (int p = 0; p < many; p++) {
                Check.sits(x, p / 5, p % 5, p == 0 ? "11" : "01");
            }
            long half = halves[many - 2];
            parts("the first of " + many, x, 0, 1, half);
            x.answer(0, 0, 0, 0);
            x.answer(many - 1, 0, 1, 0);
            parts("the last of " + many, x, 0, -1, half);
            x.answer(many - 1, 0, 0, 0);
            x.answer(many / 2, 0, 1, 0);
            boolean isEven = many % 2 == 0;
            parts("the one behind the better half of " + many, x, 0, isEven ? -1 : 0, isEven ? half : 1);
            x.answer(many / 2, 0, 0, 0);
            x.answer(many / 2 - 1, 0, 1, 0);
            parts("the last of the better half of " + many, x, 0, 1, half);
        }
    }

    /** From 1 by 1 to -1 by 1, "(0 by 1)" between. */
    static void promise29PartsFromAllToNone() {
        parts("all of the better", pupils("11", "11", "11", "00", "00"), 0, 1, 1);
        parts("all of the worse", pupils("11", "01", "01", "10", "10"), 0, -1, 1);
        parts("all", pupils("11", "11", "11", "10", "10"), 0, 0, 1);
        parts("none", pupils("11", "01", "01", "00", "00"), 0, 0, 1);
        parts("two of two less one of two", pupils("11", "11", "11", "10", "00"), 0, 1, 2);
    }

    /** Five PUPILS with all RESTS from 0 to 2 (to question 3), each of them alone having it. */
    static void promise29PartsInEveryOrderOfRests() {
        String[] byRest = {"000", "100", "110"};
        for (int code = 0; code < 243; code++) {
            int[] rests = {code % 3, code / 3 % 3, code / 9 % 3, code / 27 % 3, code / 81};
            SameWrong x = Check.test("1111");
            for (int p = 0; p < 5; p++) {
                Check.sits(x, 0, p, byRest[rests[p]]);
            }
            for (int p = 0; p < 5; p++) {
                int ahead = 0;
                for (int other = 0; other < 5; other++) {
                    ahead += rests[other] > rests[p] || rests[other] == rests[p] && other < p ? 1 : 0;
                }
                x.answer(p, 3, 1, 0);
                parts("rests by code " + code + ", " + p, x, 3, ahead < 2 ? 1 : ahead > 2 ? -1 : 0, ahead == 2 ? 1 : 2);
                x.answer(p, 3, 0, 0);
            }
        }
    }

    /** "by REST": MARK without that QUESTION; "of like ones lesser numbers first". */
    static void promise29PartsByRestThenByNumber() {
        // MARKS are 1, 1: by REST to question 0 the second is better, to question 1 the first
        SameWrong x = pupils("11", "10", "01");
        parts("to 0", x, 0, -1, 1);
        parts("to 1", x, 1, -1, 1);
        x = pupils("11", "01", "11");
        parts("like RESTS, the first has it not", x, 0, -1, 1);
        x = pupils("11", "11", "01");
        parts("like RESTS, the first has it", x, 0, 1, 1);
        // RESTS to 0 are 0, 1, 1, 0: order 1, 2, 0, 3
        x = pupils("11", "10", "11", "01", "10");
        parts("four", x, 0, -1, 2);
    }
}
