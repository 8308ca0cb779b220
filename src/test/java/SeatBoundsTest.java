/** Every sentence on seats, sources and chains that names a boundary, promises 16 to 19. */
public final class SeatBoundsTest {
    private static final int NONE = -1, BAD = -2, NOT = -3, FULL = -4;

    private SeatBoundsTest() {
    }

    public static void main(String[] args) {
        Check.runPromises(SeatBoundsTest.class, 16, 19);
        Check.end();
    }

    private static void due(String call, long got, long want) {
        Check.due(call, got, want);
    }

    /** All that is SHARED is ODD here, as long as BOTH are seven at most. */
    private static SameWrong anyIsOdd(String key) {
        SameWrong x = Check.test(key);
        x.set(2, 1000);
        return x;
    }

    // ---- promise 16: "BESIDE (what = 0), HOW LIKELY (1). BAD; FULL (1 alone)."

    static void promise16SeatsTakesWhat0To1() {
        Refused.outside("what", Worlds::empty, 0, 1, BAD, SameWrong::seats);
        Refused.outside("what", Worlds::busy, 0, 1, BAD, SameWrong::seats);
    }

    /** "(7 PUPILS at most: FULL)", "(1 alone)" */
    static void promise16HowLikelyOfUpTo7Pupils() {
        SameWrong x = Check.test("1");
        for (int p = 0; p < 7; p++) {
            due("how likely of " + p, x.seats(1), 1000000);
            Check.sits(x, p / 5, p % 5, "2");
        }
        due("how likely of seven", x.seats(1), 1000000);
        due("beside of seven", x.seats(0), 10);
        for (int p = 7; p < 10; p++) {
            Check.sits(x, p / 5, p % 5, "0");
            due("how likely of " + (p + 1), x.seats(1), FULL);
            due("beside of " + (p + 1), x.seats(0), 10);
        }
    }

    static void promise16HowLikelyFullChangesNothing() {
        Refused.call("how likely of ten", Worlds::full, FULL, x -> x.seats(1));
        Refused.call("how likely of eight", () -> {
            SameWrong x = new SameWrong();
            for (int p = 0; p < 8; p++) {
                x.pupil(p % 4, p % 5);
            }
            return x;
        }, FULL, x -> x.seats(1));
    }

    static void promise16SeatsBadAheadOfFull() {
        Refused.outside("what", Worlds::full, 0, 1, BAD, SameWrong::seats);
    }

    /** "(without PUPILS 1000000)", and without QUESTIONS that are not STRUCK. */
    static void promise16SeatsOfNone() {
        SameWrong x = new SameWrong();
        due("beside", x.seats(0), 0);
        due("how likely", x.seats(1), 1000000);
        x.pupil(0, 0);
        x.pupil(0, 1);
        x.answer(0, 0, 1, 0);
        x.answer(1, 0, 1, 0);
        due("beside, all struck", x.seats(0), 0);
        due("how likely, all struck", x.seats(1), 1000000);
    }

    static void promise16SeatsOfOneAndTwo() {
        SameWrong x = Check.test("1");
        Check.sits(x, 0, 0, "2");
        due("beside of one", x.seats(0), 0);
        due("how likely of one", x.seats(1), 1000000);
        Check.sits(x, 1, 1, "2");
        due("beside of two", x.seats(0), 1);
        due("how likely of two", x.seats(1), 1000000);
    }

    /** "over all pairs of NEIGHBOURS what is SHARED, together": the most there can be. */
    static void promise16BesideOfTen() {
        SameWrong x = Worlds.tenAlike("111111111111", "222222222222");
        // two rows of five: 4 + 4 along, 5 across, 8 aslant
        due("beside", x.seats(0), 21 * 12);
        x.questions(11);
        due("with a fault", x.seats(0), 0);
    }

    static void promise16BesideOfFarOnes() {
        SameWrong x = Check.test("1");
        Check.sits(x, 0, 0, "2");
        Check.sits(x, 0, 2, "2");
        Check.sits(x, 2, 0, "2");
        Check.sits(x, 2, 2, "2");
        Check.sits(x, 0, 4, "2");
        due("beside", x.seats(0), 0);
        Check.sits(x, 1, 1, "2");
        due("with one in their middle", x.seats(0), 4);
    }

    /** "as much, or more; millionths, cut" */
    static void promise16HowLikelyIsCut() {
        SameWrong x = Check.test("1");
        Check.sits(x, 0, 0, "2");
        Check.sits(x, 0, 1, "2");
        Check.sits(x, 3, 3, "0");
        // the two who share are on the two near seats in 1 of 3 deals
        due("1 of 3", x.seats(1), 333333);
        x = Check.test("1");
        Check.sits(x, 0, 0, "2");
        Check.sits(x, 0, 1, "2");
        Check.sits(x, 0, 2, "0");
        // near are two of three pairs of seats
        due("2 of 3", x.seats(1), 666666);
    }

    static void promise16HowLikelyCountsAsMuch() {
        SameWrong x = Check.test("11");
        Check.sits(x, 0, 0, "20");
        Check.sits(x, 0, 1, "20");
        Check.sits(x, 3, 3, "03");
        Check.sits(x, 3, 0, "03");
        // one pair of near seats: of six pairs of pupils two share one
        due("as much", x.seats(1), 333333);
        x.answer(2, 0, 2, 0);
        x.answer(3, 0, 2, 0);
        // now each two of four share one, two of them two
        due("as much, or more", x.seats(1), 1000000);
        x.answer(0, 1, 3, 0);
        x.answer(1, 1, 3, 0);
        due("all alike", x.seats(1), 1000000);
        x.answer(2, 1, 4, 0);
        // 0 and 1, 0 and 3, 1 and 3 share two: three of six
        due("more alone", x.seats(1), 500000);
    }

    /** 1 of 5040 orders, and its mirror, as seven in a row of seats have. */
    static void promise16HowLikelyOfSevenInOneOrder() {
        SameWrong x = Check.test("111111");
        int[][] seats = {{0, 0}, {0, 2}, {0, 4}, {2, 0}, {2, 1}, {2, 3}, {2, 4}};
        String[] answers = {"000000", "000000", "000000", "200000", "200000", "030000", "030000"};
        for (int p = 0; p < 7; p++) {
            Check.sits(x, seats[p][0], seats[p][1], answers[p]);
        }
        // two pairs of seats for two pairs of pupils: 2 * 2 * 2 ways, 3! for the others: 48 of 5040
        due("beside", x.seats(0), 2);
        due("how likely", x.seats(1), 9523);
    }

    // ---- promise 17: "SOURCES, as bits."

    static void promise17SourcesOfNone() {
        due("no pupils", new SameWrong().sources(), 0);
        SameWrong x = anyIsOdd("1");
        Check.sits(x, 0, 0, "2");
        due("one", x.sources(), 0);
        Check.sits(x, 0, 1, "3");
        due("nothing shared", x.sources(), 0);
        Check.sits(x, 0, 2, "2");
        due("odd, not near", x.sources(), 0);
        x.set(2, 0);
        x.answer(1, 0, 2, 0);
        due("near, not odd", x.sources(), 0);
        x.set(2, 1000);
        due("both", x.sources(), 2);
    }

    /** "of like ones the least" */
    static void promise17SourcesOfLikeOnesTheLeast() {
        SameWrong x = anyIsOdd("1");
        Check.sits(x, 0, 0, "2");
        Check.sits(x, 0, 1, "2");
        due("of 1 and 2", x.sources(), 1);
        Check.sits(x, 3, 0, "2");
        Check.sits(x, 3, 1, "2");
        due("of 5, 6, 9, 10", x.sources(), 5);
    }

    /** The fewest comes ahead of the least: one PUPIL with a great number. */
    static void promise17SourcesTheFewestAheadOfTheLeast() {
        SameWrong x = anyIsOdd("1111");
        Check.sits(x, 0, 0, "2000");
        Check.sits(x, 0, 2, "0200");
        Check.sits(x, 2, 0, "0020");
        Check.sits(x, 2, 2, "0002");
        for (int p = 4; p < 9; p++) {
            Check.sits(x, p == 4 ? 0 : 3, p == 4 ? 4 : p - 5, "1111");
        }
        Check.sits(x, 1, 1, "2222");
        due("the last of ten", x.sources(), 512);
    }

    /** Ten PUPILS, all NEIGHBOURS ODD: in two rows each two by two need three of four. */
    static void promise17SourcesOfTen() {
        SameWrong x = Worlds.tenAlike("1", "2");
        x.set(2, 1000);
        // those left out are no neighbours: at most three (places 0, 2, 4), of like ones with the greatest numbers
        due("two rows of five", x.sources(), 1023 & ~(1 << 5 | 1 << 7 | 1 << 9));
    }

    /** FULL is not ODD, so nothing has to come from them. */
    static void promise17SourcesOfFullOnes() {
        SameWrong x = Worlds.tenAlike("11111111", "22222222");
        x.set(2, 1000);
        due("eight both", x.sources(), 0);
        x.questions(7);
        x.wipe();
        Check.type(x, "1111111");
        due("seven both", x.sources(), 1023 & ~(1 << 5 | 1 << 7 | 1 << 9));
    }

    // ---- promise 18: "FROM; NONE. BAD; NOT: they are not both ODD and NEIGHBOURS."

    static void promise18FromRefusesOtherPupils() {
        Refused.outside("a", Worlds::busy, 0, 3, BAD, (x, a) -> x.from(a, 0));
        Refused.outside("b", Worlds::busy, 0, 3, BAD, (x, b) -> x.from(0, b));
        Refused.outside("a of ten", Worlds::full, 0, 9, BAD, (x, a) -> x.from(a, 9));
        Refused.outside("b of none", Worlds::empty, 0, -1, BAD, (x, b) -> x.from(0, b));
        Refused.call("one with oneself", Worlds::busy, BAD, x -> x.from(1, 1));
    }

    private static SameWrong three() {
        SameWrong x = anyIsOdd("111");
        Check.sits(x, 0, 0, "210");
        Check.sits(x, 0, 1, "200");
        Check.sits(x, 0, 2, "211");
        return x;
    }

    static void promise18FromNotIfNotBoth() {
        Refused.call("odd, not near", SeatBoundsTest::three, NOT, x -> x.from(0, 2));
        Refused.call("odd, not near, the other way", SeatBoundsTest::three, NOT, x -> x.from(2, 0));
        Refused.Maker noneOdd = () -> {
            SameWrong x = three();
            x.set(2, 0);
            return x;
        };
        Refused.call("near, not odd", noneOdd, NOT, x -> x.from(0, 1));
        Refused.call("neither", noneOdd, NOT, x -> x.from(0, 2));
        Refused.call("nothing shared", () -> {
            SameWrong x = three();
            x.answer(1, 0, 3, 0);
            return x;
        }, NOT, x -> x.from(0, 1));
    }

    static void promise18FromNotIfFull() {
        Refused.Maker eight = () -> {
            SameWrong x = Worlds.tenAlike("111111111", "222222221");
            x.set(2, 1000);
            return x;
        };
        Refused.call("eight both", eight, NOT, x -> x.from(0, 1));
        SameWrong x = eight.make();
        x.answer(0, 7, 1, 0);
        due("seven both", x.from(0, 1), 0);
    }

    static void promise18FromBadAheadOfNot() {
        Refused.call("no such one", SeatBoundsTest::three, BAD, x -> x.from(0, 3));
        Refused.call("none at all", SeatBoundsTest::three, BAD, x -> x.from(-1, 2));
    }

    /** "the one with the greater MARK": by one it is greater. */
    static void promise18FromTheGreaterMark() {
        SameWrong x = three();
        due("0 and 1", x.from(0, 1), 0);
        due("1 and 0", x.from(1, 0), 0);
        due("2 and 1", x.from(2, 1), 2);
        // however much was RUBBED OUT
        for (int i = 0; i < 130; i++) {
            x.answer(0, 2, 2 + i % 2, 0);
        }
        x.answer(0, 2, 0, 0);
        due("rubbed out", x.rubbed(0, 0), 130);
        due("the mark is ahead", x.from(0, 1), 0);
        due("the mark is ahead, the other way", x.from(1, 0), 0);
    }

    /** "of like ones the one who has less RUBBED OUT, of like ones NONE" */
    static void promise18FromLessRubbedOutThenNone() {
        SameWrong x = three();
        x.answer(1, 1, 1, 1);
        due("like marks", x.from(0, 1), NONE);
        due("like marks, the other way", x.from(1, 0), NONE);
        x.answer(0, 2, 4, 2);
        x.answer(0, 2, 5, 2);
        due("0 has one", x.from(0, 1), 1);
        x.answer(1, 2, 4, 3);
        x.answer(1, 2, 0, 3);
        due("one each", x.from(1, 0), NONE);
        x.answer(1, 2, 3, 4);
        x.answer(1, 2, 0, 4);
        due("1 has two", x.from(1, 0), 0);
        x.set(0, 3);
        due("as of 3", x.from(0, 1), NONE);
        x.set(0, 2);
        due("as of 2", x.from(0, 1), 1);
        x.set(0, 1);
        due("as of 1", x.from(0, 1), NONE);
        x.set(0, 0);
        due("as of 0", x.from(0, 1), 0);
    }

    // ---- promise 19: "CHAIN: how many (0 without PUPILS)."

    static void promise19ChainOfNone() {
        due("no pupils", new SameWrong().chain(), 0);
        SameWrong x = anyIsOdd("1");
        x.pupil(0, 0);
        due("one", x.chain(), 1);
        x.pupil(0, 1);
        due("two, nothing odd", x.chain(), 1);
    }

    static void promise19ChainOfTwo() {
        SameWrong x = anyIsOdd("11");
        Check.sits(x, 0, 0, "20");
        Check.sits(x, 0, 1, "21");
        due("1 gave to 0", x.chain(), 2);
        x.answer(0, 1, 1, 0);
        due("none gave", x.chain(), 1);
        x.answer(0, 1, 2, 0);
        due("1 gave again", x.chain(), 2);
        x.answer(1, 1, 0, 0);
        due("0 has one rubbed out, 1 has one", x.chain(), 1);
        x.answer(1, 1, 3, 0);
        x.answer(1, 1, 4, 0);
        due("0 gave", x.chain(), 2);
    }

    /** All ten one behind the other, whichever way the numbers run. */
    static void promise19ChainOfTen() {
        for (boolean rising : new boolean[] {true, false}) {
            SameWrong x = anyIsOdd("111111111112");
            for (int p = 0; p < 10; p++) {
                // along the first row and back along the second
                x.pupil(p / 5, p < 5 ? p : 9 - p);
                x.answer(p, 11, 1, 0);
                int mark = rising ? p : 9 - p;
                for (int q = 0; q < mark; q++) {
                    x.answer(p, q, 1, 0);
                }
            }
            due("ten, rising " + rising, x.chain(), 10);
            x.answer(5, 11, 3, 1);
            due("around one, rising " + rising, x.chain(), 9);
            x.answer(4, 11, 3, 1);
            due("around two, rising " + rising, x.chain(), 8);
            x.set(0, 0);
            due("as of before, rising " + rising, x.chain(), 10);
        }
    }

    /** Like ones don't give, so that no chain goes around. */
    static void promise19ChainOfLikeOnes() {
        SameWrong x = Worlds.tenAlike("11", "21");
        x.set(2, 1000);
        due("all alike", x.chain(), 1);
        x.answer(3, 1, 3, 1);
        due("all around gave to one", x.chain(), 2);
    }

    static void promise19ChainOfFullOnes() {
        SameWrong x = Worlds.tenAlike("111111111", "222222221");
        x.set(2, 1000);
        x.answer(0, 8, 0, 1);
        due("eight both", x.chain(), 1);
        x.answer(0, 7, 0, 1);
        due("seven both", x.chain(), 2);
    }
}
