import java.math.BigInteger;

/** Every sentence on what was rubbed out and what was known that names a boundary, promises 20 to 23. */
public final class RubbedBoundsTest {
    private static final int BAD = -2;

    private RubbedBoundsTest() {
    }

    public static void main(String[] args) {
        Check.runPromises(RubbedBoundsTest.class, 20, 23);
        Check.end();
    }

    private static void due(String call, long got, long want) {
        Check.due(call, got, want);
    }

    private static void gains(String what, SameWrong x, int pupils, long above, long below) {
        Check.fraction(what, x.gains(pupils, 0), x.gains(pupils, 1), above, below);
    }

    private static void lead(String what, SameWrong x, int question, int pupils, long above, long below) {
        Check.fraction(what, x.lead(question, pupils, 0), x.lead(question, pupils, 1), above, below);
    }

    // ---- promise 20: "RUBBED: how often (what = 0), to RIGHT from WRONG (1), to WRONG from RIGHT (2). BAD."

    static void promise20RubbedRefusesOtherPupils() {
        for (int what = 0; what <= 2; what++) {
            int w = what;
            Refused.outside("pupil, " + what, Worlds::busy, 0, 3, BAD, (x, p) -> x.rubbed(p, w));
            Refused.outside("pupil of none, " + what, Worlds::empty, 0, -1, BAD, (x, p) -> x.rubbed(p, w));
        }
        Refused.outside("pupil of ten", Worlds::full, 0, 9, BAD, (x, p) -> x.rubbed(p, 0));
    }

    static void promise20RubbedTakesWhat0To2() {
        Refused.outside("what", Worlds::busy, 0, 2, BAD, (x, what) -> x.rubbed(0, what));
        Refused.outside("what", Worlds::full, 0, 2, BAD, (x, what) -> x.rubbed(9, what));
    }

    /** "what was there before (0 at first) was RUBBED OUT, if it is another one and was not 0" */
    static void promise20RubbedOfEachTwoAnswersByEachKey() {
        for (char key : "12345?".toCharArray()) {
            for (int before = 0; before <= 5; before++) {
                for (int after = 0; after <= 5; after++) {
                    SameWrong x = Check.test(String.valueOf(key));
                    x.pupil(0, 0);
                    x.answer(0, 0, before, 0);
                    due("the first rubs nothing out", x.rubbed(0, 0), 0);
                    x.answer(0, 0, after, 0);
                    boolean rubbed = before != 0 && before != after;
                    int right = key == '?' ? -1 : key - '0';
                    boolean gained = rubbed && after == right;
                    boolean lost = rubbed && before == right && after != 0;
                    String what = before + " to " + after + " by " + key;
                    due(what, x.rubbed(0, 0), rubbed ? 1 : 0);
                    due(what + ", gained", x.rubbed(0, 1), gained ? 1 : 0);
                    due(what + ", lost", x.rubbed(0, 2), lost ? 1 : 0);
                    due(what + ", count(7)", x.count(7), rubbed ? 1 : 0);
                }
            }
        }
    }

    /** By way of 0 nothing comes to RIGHT from WRONG: what was there before is the 0. */
    static void promise20RubbedByWayOfNone() {
        SameWrong x = Check.test("1");
        x.pupil(0, 0);
        for (int v : new int[] {0, 2, 0, 0, 1, 0, 3}) {
            x.answer(0, 0, v, 0);
        }
        due("rubbed", x.rubbed(0, 0), 2);
        due("gained", x.rubbed(0, 1), 0);
        due("lost", x.rubbed(0, 2), 0);
    }

    /** What one PUPIL said to one QUESTION is rubbed out by that PUPIL to that QUESTION alone. */
    static void promise20RubbedOfEachAlone() {
        SameWrong x = Check.test("11");
        x.pupil(0, 0);
        x.pupil(0, 1);
        x.answer(0, 0, 2, 0);
        x.answer(0, 1, 1, 0);
        x.answer(1, 0, 1, 0);
        x.answer(1, 1, 3, 0);
        due("in all", x.count(7), 0);
        x.answer(1, 1, 1, 0);
        due("by 0", x.rubbed(0, 0), 0);
        due("by 1", x.rubbed(1, 0), 1);
        due("by 1, gained", x.rubbed(1, 1), 1);
    }

    /** "to a QUESTION that there is" */
    static void promise20RubbedToQuestionsThatAreThere() {
        SameWrong x = Check.test("111111111111");
        x.pupil(0, 0);
        for (int q = 0; q < 12; q++) {
            x.answer(0, q, 2, 0);
            x.answer(0, q, 1, 0);
        }
        for (int n = 12; n >= 1; n--) {
            x.questions(n);
            due("rubbed with " + n, x.rubbed(0, 0), n);
            due("gained with " + n, x.rubbed(0, 1), n == 12 ? 12 : 0);
        }
        x.questions(12);
        due("rubbed with 12 again", x.rubbed(0, 0), 12);
    }

    /** "(by THE KEY as it is)" */
    static void promise20RubbedByTheKeyAsItIs() {
        SameWrong x = Check.test("1");
        x.pupil(0, 0);
        x.answer(0, 0, 2, 0);
        x.answer(0, 0, 1, 0);
        String keys = "123?6";
        int[] gained = {1, 0, 0, 0, 0}, lost = {0, 1, 0, 0, 0};
        for (int i = 0; i < keys.length(); i++) {
            x.wipe();
            x.type(keys.charAt(i));
            due("rubbed by " + keys.charAt(i), x.rubbed(0, 0), 1);
            due("gained by " + keys.charAt(i), x.rubbed(0, 1), gained[i]);
            due("lost by " + keys.charAt(i), x.rubbed(0, 2), lost[i]);
        }
    }

    /** As many as 150 TELLINGS can rub out. */
    static void promise20RubbedTheMost() {
        SameWrong x = Check.test("1");
        x.pupil(0, 0);
        for (int i = 0; i < 150; i++) {
            x.answer(0, 0, 1 + i % 2, 0);
        }
        due("rubbed", x.rubbed(0, 0), 149);
        due("gained", x.rubbed(0, 1), 74);
        due("lost", x.rubbed(0, 2), 75);
    }

    // ---- promise 21: "GAINS: above, below. BAD (PUPILS 0 to 1023); FULL."

    static void promise21GainsTakesPupils0To1023() {
        for (int what = 0; what <= 1; what++) {
            int w = what;
            Refused.outside("pupils, " + what, Worlds::empty, 0, 1023, Check.BAD_LONG, (x, b) -> x.gains(b, w));
            Refused.outside("pupils, " + what, Worlds::busy, 0, 1023, Check.BAD_LONG, (x, b) -> x.gains(b, w));
        }
        SameWrong x = Worlds.busy();
        gains("none", x, 0, 1, 1);
        gains("all that can be", x, 1023, 1, 1);
    }

    static void promise21GainsTakesWhat0To1() {
        Refused.outside("what", Worlds::empty, 0, 1, Check.BAD_LONG, (x, what) -> x.gains(1, what));
        Refused.outside("what", Worlds::busy, 0, 1, Check.BAD_LONG, (x, what) -> x.gains(1023, what));
    }

    static void promise21GainsOfNone() {
        gains("no pupils", new SameWrong(), 1023, 1, 1);
        SameWrong x = Check.test("1");
        Check.sits(x, 0, 0, "1");
        gains("nothing rubbed out", x, 1, 1, 1);
        x.pupil(0, 1);
        x.answer(0, 0, 2, 0);
        x.answer(0, 0, 1, 0);
        gains("of one who has none", x, 2, 1, 1);
        gains("of one who is not there", x, 512, 1, 1);
        gains("of no one", x, 0, 1, 1);
        gains("of one who has all", x, 1, 1, 1);
    }

    /** Two PUPILS: the first with so many rubbed out, so many of them gained, the second with the others. */
    private static SameWrong rubbed(int first, int gained, int all, int good) {
        SameWrong x = Check.test("111111111111");
        x.pupil(0, 0);
        x.pupil(0, 1);
        rubs(x, 0, gained, first - gained);
        rubs(x, 1, good - gained, all - first - (good - gained));
        return x;
    }

    /** So many to RIGHT from WRONG, and so many others: a gain behind the first twelve needs one of them. */
    private static void rubs(SameWrong x, int pupil, int gains, int others) {
        for (int i = 0; i < gains; i++) {
            x.answer(pupil, i % 12, 2, 0);
            x.answer(pupil, i % 12, 1, 0);
        }
        int left = others - Math.max(0, gains - 12);
        int now = gains > 0 ? 1 : 3;
        x.answer(pupil, 0, now, 0);
        for (int i = 0; i < left; i++) {
            now = now == 3 ? 4 : 3;
            x.answer(pupil, 0, now, 0);
        }
        due("rubbed out by " + pupil, x.rubbed(pupil, 0), gains + others);
        due("gained by " + pupil, x.rubbed(pupil, 1), gains);
    }

    private static BigInteger sets(int n, int k) {
        BigInteger ways = BigInteger.ONE;
        for (int i = 0; i < k; i++) {
            ways = ways.multiply(BigInteger.valueOf(n - i)).divide(BigInteger.valueOf(i + 1));
        }
        return k < 0 || k > n ? BigInteger.ZERO : ways;
    }

    private static void gainsAsReckoned(int first, int gained, int all, int good) {
        BigInteger above = BigInteger.ZERO, below = sets(all, first);
        for (int k = gained; k <= first; k++) {
            above = above.add(sets(good, k).multiply(sets(all - good, first - k)));
        }
        BigInteger divisor = above.gcd(below);
        String what = gained + " of " + first + ", " + good + " of " + all;
        gains(what, rubbed(first, gained, all, good), 1,
                above.divide(divisor).longValueExact(), below.divide(divisor).longValueExact());
    }

    /** "(60 at most: FULL)": with 60 every one is exact, from the first that is drawn to the last. */
    static void promise21GainsOf60() {
        for (int all : new int[] {59, 60}) {
            for (int first : new int[] {0, 1, 2, 12, 29, 30, 31, 58, 59, all}) {
                for (int good : new int[] {0, 1, 2, 11, 20, 24, 30}) {
                    int least = Math.max(0, good - (all - first)), most = Math.min(first, good);
                    for (int gained = least; gained <= most; gained++) {
                        boolean canBe = gained <= 12 + first - gained
                                && good - gained <= 12 + all - first - (good - gained);
                        if (canBe) {
                            gainsAsReckoned(first, gained, all, good);
                        }
                    }
                }
            }
        }
    }

    static void promise21GainsOf61IsFull() {
        for (int bits : new int[] {0, 1, 2, 3, 512, 1023}) {
            for (int what = 0; what <= 1; what++) {
                int b = bits, w = what;
                Refused.call("gains(" + b + ", " + w + ")", () -> rubbed(30, 10, 61, 20), Check.FULL_LONG,
                        x -> x.gains(b, w));
            }
        }
        due("by one alone", rubbed(61, 3, 61, 3).gains(2, 0), Check.FULL_LONG);
        due("by one alone, none gained", rubbed(0, 0, 61, 0).gains(1, 0), Check.FULL_LONG);
    }

    /** It is what was RUBBED OUT that is 60 at most, not what was told; and AS OF the TIME. */
    static void promise21GainsOfFewerAmongManyTellings() {
        SameWrong x = rubbed(30, 10, 60, 20);
        for (int i = 0; i < 20; i++) {
            x.answer(1, 11, 0, 5);
        }
        due("rubbed out", x.count(7), 60);
        due("not full", x.gains(1, 1) > 0 ? 1 : 0, 1);
        x.answer(0, 0, 5, 6);
        due("rubbed out", x.count(7), 61);
        due("full", x.gains(1, 1), Check.FULL_LONG);
        x.set(0, 5);
        due("not full as of before", x.gains(1, 1) > 0 ? 1 : 0, 1);
    }

    static void promise21GainsBadAheadOfFull() {
        Refused.Maker many = () -> rubbed(30, 10, 61, 20);
        Refused.outside("pupils", many, 0, 1023, Check.BAD_LONG, (x, b) -> x.gains(b, 0));
        Refused.outside("what", many, 0, 1, Check.BAD_LONG, (x, what) -> x.gains(1, what));
    }

    /** "as many to RIGHT from WRONG, or more": from none to all of those drawn. */
    static void promise21GainsOfAsManyOrMore() {
        // of four two are good, two are drawn: 1, 5 of 6, 1 of 6
        gains("none", rubbed(2, 0, 4, 2), 1, 1, 1);
        gains("one", rubbed(2, 1, 4, 2), 1, 5, 6);
        gains("two", rubbed(2, 2, 4, 2), 1, 1, 6);
        gains("the other one, none", rubbed(2, 2, 4, 2), 2, 1, 1);
    }

    /** Bits 0 to 9 are PUPILS 0 to 9, and those who are not there have nothing. */
    static void promise21GainsOfEachPupil() {
        SameWrong x = Check.test("1");
        for (int p = 0; p < 10; p++) {
            x.pupil(p / 5, p % 5);
            x.answer(p, 0, 2, 0);
            x.answer(p, 0, p == 9 ? 1 : 3, 0);
        }
        for (int p = 0; p < 9; p++) {
            gains("of " + p, x, 1 << p, 1, 1);
        }
        gains("of 9", x, 512, 1, 10);
        gains("of all but 0", x, 1022, 9, 10);
        gains("of all but 9", x, 511, 1, 1);
    }

    // ---- promise 22: "KNOWN, as bits. BAD (PUPILS 1 to 1023, one there at least; p 0 to 100)."

    static void promise22KnownTakesPupils1To1023() {
        Refused.outside("pupils", Worlds::busy, 1, 1023, BAD, (x, bits) -> x.known(bits, 50));
        Refused.outside("pupils", Worlds::full, 1, 1023, BAD, (x, bits) -> x.known(bits, 0));
        SameWrong x = Check.test("1");
        Check.sits(x, 0, 0, "1");
        due("known(1, 0)", x.known(1, 0), 1);
        due("known(1023, 0)", x.known(1023, 0), 1);
    }

    /** "one there at least" */
    static void promise22KnownRefusesPupilsThatAreNotThere() {
        for (int bits : new int[] {16, 512, 1023 & ~15}) {
            Refused.call("known(" + bits + ")", Worlds::busy, BAD, x -> x.known(bits, 0));
        }
        Refused.call("of none", Worlds::empty, BAD, x -> x.known(1, 0));
        Refused.call("all of none", Worlds::empty, BAD, x -> x.known(1023, 100));
        SameWrong x = Check.test("1");
        for (int p = 0; p < 10; p++) {
            due("not yet " + p, x.known(1 << p, 100), BAD);
            Check.sits(x, p / 5, p % 5, "1");
            due("now " + p, x.known(1 << p, 100), 1);
        }
    }

    static void promise22KnownTakesP0To100() {
        Refused.outside("p", Worlds::busy, 0, 100, BAD, (x, p) -> x.known(1, p));
        Refused.outside("p", Worlds::full, 0, 100, BAD, (x, p) -> x.known(1023, p));
        SameWrong x = Check.test("1");
        Check.sits(x, 0, 0, "1");
        Check.sits(x, 0, 1, "1");
        Check.sits(x, 0, 2, "1");
        due("known(1, 100)", x.known(1, 100), 1);
        due("known(1, 99)", x.known(1, 99), 0);
        due("known(1, 0)", x.known(1, 0), 0);
        x.answer(1, 0, 0, 0);
        x.answer(2, 0, 0, 0);
        due("known(1, 0), no other", x.known(1, 0), 1);
    }

    /** "of all others no more than p hundredths" */
    static void promise22KnownOfNoMoreThanP() {
        for (int others = 1; others <= 9; others++) {
            for (int right = 0; right <= others; right++) {
                SameWrong x = Check.test("1");
                for (int p = 0; p <= others; p++) {
                    Check.sits(x, p / 5, p % 5, p <= right ? "1" : "2");
                }
                for (int p = 0; p <= 100; p++) {
                    due(right + " of " + others + " by " + p, x.known(1, p), right * 100 <= p * others ? 1 : 0);
                }
            }
        }
    }

    /** "that all of some PUPILS have RIGHT" */
    static void promise22KnownIfAllOfThemHaveItRight() {
        SameWrong x = Check.test("1111");
        Check.sits(x, 0, 0, "1110");
        Check.sits(x, 0, 1, "1120");
        Check.sits(x, 0, 2, "1020");
        due("0", x.known(1, 100), 7);
        due("0 and 1", x.known(3, 100), 3);
        due("all", x.known(7, 0), 1);
        due("1 and some who are not there", x.known(2 | 1016, 100), 3);
    }

    /** Without others there are none of them who have it. */
    static void promise22KnownWithoutOthers() {
        SameWrong x = Check.test("12");
        Check.sits(x, 0, 0, "10");
        due("by 0", x.known(1, 0), 1);
        due("by 100", x.known(1, 100), 1);
        x.answer(0, 0, 0, 0);
        due("nothing right", x.known(1, 0), 0);
    }

    /** "QUESTIONS (bits; not STRUCK)": bit 11 is the last one. */
    static void promise22KnownOfQuestionsNotStruck() {
        SameWrong x = Check.test("1?1111111115");
        Check.sits(x, 0, 0, "111111111115");
        Check.sits(x, 0, 1, "100000000000");
        due("by 0", x.known(1, 0), 0b111111111100);
        due("by 100", x.known(1, 100), 0b111111111101);
        x.questions(11);
        due("with a fault", x.known(1, 100), 0);
    }

    // ---- promise 23: "LEAD: above, below. BAD (PUPILS 0 to 1023); NOT."

    static void promise23LeadTakesQuestionsThatAreThere() {
        Refused.outside("question", Worlds::busy, 0, 6, Check.BAD_LONG, (x, q) -> x.lead(q, 1, 0));
        Refused.outside("question", Worlds::full, 0, 11, Check.BAD_LONG, (x, q) -> x.lead(q, 1, 1));
        Refused.outside("question", Worlds::empty, 0, 9, Check.BAD_LONG, (x, q) -> x.lead(q, 1, 0));
    }

    static void promise23LeadTakesPupils0To1023() {
        Refused.outside("pupils", Worlds::busy, 0, 1023, Check.BAD_LONG, (x, bits) -> x.lead(0, bits, 0));
        Refused.outside("pupils", Worlds::full, 0, 1023, Check.BAD_LONG, (x, bits) -> x.lead(11, bits, 1));
    }

    static void promise23LeadTakesWhat0To1() {
        Refused.outside("what", Worlds::busy, 0, 1, Check.BAD_LONG, (x, what) -> x.lead(0, 1, what));
    }

    /** "NOT, if one of both are none, or it is STRUCK" */
    static void promise23LeadNotIfOneOfBothAreNone() {
        for (int what = 0; what <= 1; what++) {
            int w = what;
            for (int none : new int[] {0, 16, 1008}) {
                Refused.call("none: " + none, Worlds::busy, Check.NOT_LONG, x -> x.lead(0, none, w));
            }
            for (int all : new int[] {15, 31, 1023}) {
                Refused.call("no others: " + all, Worlds::busy, Check.NOT_LONG, x -> x.lead(0, all, w));
            }
            Refused.call("no pupils, none", Worlds::empty, Check.NOT_LONG, x -> x.lead(0, 0, w));
            Refused.call("no pupils, all", Worlds::empty, Check.NOT_LONG, x -> x.lead(0, 1023, w));
        }
    }

    static void promise23LeadNotIfStruck() {
        for (int what = 0; what <= 1; what++) {
            int w = what;
            Refused.call("struck", Worlds::busy, Check.NOT_LONG, x -> x.lead(5, 1, w));
            Refused.call("a fault", () -> {
                SameWrong x = Worlds.busy();
                x.type('1');
                return x;
            }, Check.NOT_LONG, x -> x.lead(0, 1, w));
        }
    }

    static void promise23LeadBadAheadOfNot() {
        Refused.call("what, none", Worlds::busy, Check.BAD_LONG, x -> x.lead(0, 0, 2));
        Refused.call("what, struck", Worlds::busy, Check.BAD_LONG, x -> x.lead(5, 1, -1));
        Refused.call("question, none", Worlds::busy, Check.BAD_LONG, x -> x.lead(7, 0, 0));
        Refused.call("pupils, struck", Worlds::busy, Check.BAD_LONG, x -> x.lead(5, 1024, 0));
        Refused.call("what, no pupils", Worlds::empty, Check.BAD_LONG, x -> x.lead(0, 1, 2));
    }

    /** From 1 by 1 to -1 by 1, "(0 by 1)" between. */
    static void promise23LeadFromAllToNone() {
        SameWrong x = Check.test("11");
        for (int p = 0; p < 10; p++) {
            Check.sits(x, p / 5, p % 5, p < 4 ? "11" : "21");
        }
        lead("those who have it", x, 0, 15, 1, 1);
        lead("those who don't", x, 0, 1008, -1, 1);
        lead("as many of both", x, 1, 15, 0, 1);
        lead("one of both", x, 0, 1, 2, 3);
        lead("all but the last", x, 0, 511, 4, 9);
        lead("the last", x, 0, 512, -4, 9);
        lead("half of them, a third of the others", x, 0, 0b0000110011, 1, 6);
    }

    static void promise23LeadOfTwo() {
        SameWrong x = Check.test("111111111111");
        Check.sits(x, 0, 0, "111111111111");
        x.pupil(3, 4);
        lead("one, and one more", x, 11, 1, 1, 1);
        lead("the other one", x, 11, 2, -1, 1);
        lead("with some who are not there", x, 11, 1 | 1020, 1, 1);
    }
}
