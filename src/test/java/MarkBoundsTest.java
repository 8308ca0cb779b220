/** Every sentence on marks and on what two have shared that names a boundary, promises 13 to 15. */
public final class MarkBoundsTest {
    private static final int BAD = -2;
    private static final String TWELVE = "111111111111";

    private MarkBoundsTest() {
    }

    public static void main(String[] args) {
        Check.runPromises(MarkBoundsTest.class, 13, 15);
        Check.end();
    }

    private static void due(String call, long got, long want) {
        Check.due(call, got, want);
    }

    /** Two on the first seats with these answers. */
    private static SameWrong two(String key, String first, String second) {
        SameWrong x = Check.test(key);
        Check.sits(x, 0, 0, first);
        Check.sits(x, 0, 1, second);
        return x;
    }

    /** Twelve questions; two have the same wrong answers to the first so many. */
    private static SameWrong twoAlike(int many) {
        SameWrong x = Check.test(TWELVE);
        x.sheet(0, 0, many);
        for (int q = 0; q < many; q++) {
            x.put(0, 0, q, 2 + q % 4);
        }
        for (int p = 0; p < 2; p++) {
            x.pupil(0, p);
            x.read(0, p, 0);
        }
        return x;
    }

    private static void chance(String what, SameWrong x, int a, int b, long above, long below) {
        Check.fraction(what, x.chance(a, b, 0), x.chance(a, b, 1), above, below);
    }

    // ---- promise 13: "MARK (what = 0), RANK (1), whether one PASSES (2), how many are WRONG (3). BAD."

    static void promise13MarkRefusesOtherPupils() {
        for (int what = 0; what <= 3; what++) {
            int w = what;
            Refused.outside("pupil, " + what, Worlds::busy, 0, 3, BAD, (x, p) -> x.mark(p, w));
            Refused.outside("pupil of none, " + what, Worlds::empty, 0, -1, BAD, (x, p) -> x.mark(p, w));
        }
        Refused.outside("pupil of ten", Worlds::full, 0, 9, BAD, (x, p) -> x.mark(p, 1));
    }

    static void promise13MarkTakesWhat0To3() {
        Refused.outside("what", Worlds::busy, 0, 3, BAD, (x, what) -> x.mark(0, what));
        Refused.outside("what", Worlds::full, 0, 3, BAD, (x, what) -> x.mark(9, what));
        SameWrong x = two("12", "13", "00");
        int[] want = {1, 1, 1, 1};
        for (int what = 0; what <= 3; what++) {
            due("mark(0, " + what + ")", x.mark(0, what), want[what]);
        }
    }

    static void promise13MarkFromNoneToAll() {
        for (int many = 0; many <= 12; many++) {
            String rights = TWELVE.substring(0, many) + "222222222222".substring(many);
            SameWrong x = Check.test(TWELVE);
            Check.sits(x, 0, 0, rights);
            due("mark of " + rights, x.mark(0, 0), many);
            due("wrong of " + rights, x.mark(0, 3), 12 - many);
        }
    }

    /** "RIGHT is an ANSWER that is THE KEY's; WRONG one that is not, and not 0 (to a STRUCK QUESTION none ..)" */
    static void promise13MarkOfEachAnswerByEachKey() {
        for (char key : "12345?".toCharArray()) {
            for (int v = 0; v <= 5; v++) {
                SameWrong x = Check.test(String.valueOf(key));
                Check.sits(x, 0, 0, String.valueOf(v));
                boolean right = key != '?' && v == key - '0';
                boolean wrong = key != '?' && v != 0 && !right;
                due(v + " by " + key, x.mark(0, 0), right ? 1 : 0);
                due(v + " by " + key + ", wrong", x.mark(0, 3), wrong ? 1 : 0);
            }
        }
    }

    /** "With a FAULT all QUESTIONS are STRUCK." */
    static void promise13MarkWithAFault() {
        SameWrong x = two("11", "11", "22");
        x.type('1');
        for (int p = 0; p < 2; p++) {
            due("mark", x.mark(p, 0), 0);
            due("rank", x.mark(p, 1), 1);
            due("passes", x.mark(p, 2), 1);
            due("wrong", x.mark(p, 3), 0);
        }
    }

    /** "RANK: 1 and how many have more." */
    static void promise13RankFrom1To10() {
        SameWrong x = Check.test(TWELVE);
        for (int p = 0; p < 10; p++) {
            x.pupil(p / 5, p % 5);
            for (int q = 0; q < p; q++) {
                x.answer(p, q, 1, 0);
            }
        }
        for (int p = 0; p < 10; p++) {
            due("rank of " + p, x.mark(p, 1), 10 - p);
        }
    }

    static void promise13RankOfLikeOnes() {
        SameWrong x = Worlds.tenAlike("11", "10");
        for (int p = 0; p < 10; p++) {
            due("all alike, " + p, x.mark(p, 1), 1);
        }
        x.answer(4, 1, 1, 1);
        x.answer(7, 1, 1, 1);
        x.answer(2, 0, 0, 1);
        due("first of two", x.mark(4, 1), 1);
        due("second of two", x.mark(7, 1), 1);
        due("behind two", x.mark(0, 1), 3);
        due("behind nine", x.mark(2, 1), 10);
    }

    static void promise13RankOfOneAlone() {
        SameWrong x = Check.test("1");
        Check.sits(x, 3, 4, "0");
        due("rank", x.mark(0, 1), 1);
    }

    /** "PASSES: MARK times 100 at least PASS .. times QUESTIONS that are not STRUCK" */
    static void promise13PassesWithAtLeastSoMuch() {
        for (int open : new int[] {1, 3, 7, 12}) {
            for (int mark = 0; mark <= open; mark++) {
                SameWrong x = Check.test(TWELVE.substring(0, open));
                Check.sits(x, 0, 0, TWELVE.substring(0, mark));
                for (int pass = 0; pass <= 100; pass++) {
                    x.set(1, pass);
                    due(mark + " of " + open + " by " + pass, x.mark(0, 2), mark * 100 >= pass * open ? 1 : 0);
                }
            }
        }
    }

    /** "PASS (0 to 100; 50 at first)" */
    static void promise13PassesBy50AtFirst() {
        SameWrong x = two("1111", "1100", "1000");
        due("two of four", x.mark(0, 2), 1);
        due("one of four", x.mark(1, 2), 0);
    }

    static void promise13PassesAtTheEndsOfPass() {
        SameWrong x = two("111?", "1111", "0000");
        x.set(1, 100);
        due("all by 100", x.mark(0, 2), 1);
        due("none by 100", x.mark(1, 2), 0);
        x.set(1, 1);
        due("none by 1", x.mark(1, 2), 0);
        x.set(1, 0);
        due("none by 0", x.mark(1, 2), 1);
        x.set(1, 100);
        x.answer(0, 2, 2, 0);
        due("all but one by 100", x.mark(0, 2), 0);
    }

    static void promise13PassesWithAllStruck() {
        SameWrong x = two("??", "12", "00");
        x.set(1, 100);
        due("by 100", x.mark(0, 2), 1);
        due("none by 100", x.mark(1, 2), 1);
    }

    // ---- promise 14: "SHARED (what = 0), BOTH (1), whether they are ODD (2). BAD: also one with oneself."

    static void promise14SharedRefusesOtherPupils() {
        for (int what = 0; what <= 2; what++) {
            int w = what;
            Refused.outside("a, " + what, Worlds::busy, 0, 3, BAD, (x, a) -> x.shared(a, 0, w));
            Refused.outside("b, " + what, Worlds::busy, 0, 3, BAD, (x, b) -> x.shared(0, b, w));
            Refused.outside("of none, " + what, Worlds::empty, 0, -1, BAD, (x, b) -> x.shared(0, b, w));
        }
        Refused.outside("a of ten", Worlds::full, 0, 9, BAD, (x, a) -> x.shared(a, 0, 0));
        Refused.outside("b of ten", Worlds::full, 0, 9, BAD, (x, b) -> x.shared(0, b, 2));
    }

    static void promise14SharedRefusesOneWithOneself() {
        for (int what = 0; what <= 2; what++) {
            for (int p : new int[] {0, 3}) {
                int w = what;
                Refused.call("shared(" + p + ", " + p + ", " + w + ")", Worlds::busy, BAD, x -> x.shared(p, p, w));
            }
        }
    }

    static void promise14SharedTakesWhat0To2() {
        Refused.outside("what", Worlds::busy, 0, 2, BAD, (x, what) -> x.shared(0, 1, what));
        Refused.outside("what", Worlds::full, 0, 2, BAD, (x, what) -> x.shared(8, 9, what));
    }

    /** "the same WRONG ANSWER"; "to which both have a WRONG one": none of 0, of RIGHT ones, of STRUCK QUESTIONS. */
    static void promise14SharedOfEachTwoAnswers() {
        for (char key : "12345?".toCharArray()) {
            for (int first = 0; first <= 5; first++) {
                for (int second = 0; second <= 5; second++) {
                    SameWrong x = two(String.valueOf(key), String.valueOf(first), String.valueOf(second));
                    boolean both = key != '?' && first != 0 && second != 0 && first != key - '0' && second != key - '0';
                    String what = first + " and " + second + " by " + key;
                    due("shared, " + what, x.shared(0, 1, 0), both && first == second ? 1 : 0);
                    due("both, " + what, x.shared(0, 1, 1), both ? 1 : 0);
                    due("both the other way, " + what, x.shared(1, 0, 1), both ? 1 : 0);
                }
            }
        }
    }

    static void promise14SharedFromNoneToAll() {
        for (int many = 0; many <= 12; many++) {
            SameWrong x = twoAlike(many);
            due("shared of " + many, x.shared(0, 1, 0), many);
            due("both of " + many, x.shared(1, 0, 1), many);
        }
    }

    /** Of the QUESTIONS that there are alone. */
    static void promise14SharedOfQuestionsThatAreThere() {
        SameWrong x = two("111", "222", "222");
        x.questions(2);
        x.wipe();
        Check.type(x, "11");
        due("shared", x.shared(0, 1, 0), 2);
        due("both", x.shared(0, 1, 1), 2);
    }

    /** "ODD are two, if that is no more than LIMIT (.. thousandths ..)": 1 of 4 is 250 of them, no less. */
    static void promise14OddIfNoMoreThanLimit() {
        SameWrong x = two("1", "2", "2");
        chance("1 of 4", x, 0, 1, 1, 4);
        isOddFrom(x, 250);
        x = two("11", "22", "22");
        chance("1 of 16, 62.5 thousandths", x, 0, 1, 1, 16);
        isOddFrom(x, 63);
        x = two("111", "222", "222");
        chance("1 of 64, 15.6 thousandths", x, 0, 1, 1, 64);
        isOddFrom(x, 16);
    }

    /** Chances just above a thousandth are more than it, great ones, too. */
    static void promise14OddByThousandthsOfGreatChances() {
        SameWrong x = two("111", "222", "233");
        chance("578.125 thousandths", x, 0, 1, 37, 64);
        isOddFrom(x, 579);
        x = two("1111", "2345", "2222");
        chance("683.6 thousandths", x, 0, 1, 175, 256);
        isOddFrom(x, 684);
        x = two("1111111", "2345234", "2222222");
        due("shared", x.shared(0, 1, 0), 2);
        x.answer(0, 4, 3, 0);
        x.answer(0, 5, 3, 0);
        due("shared", x.shared(0, 1, 0), 1);
        // 1 less 3^7 by 4^7
        chance("866.5 thousandths", x, 0, 1, 14197, 16384);
        isOddFrom(x, 867);
    }

    private static void isOddFrom(SameWrong x, int limit) {
        x.set(2, limit - 1);
        due("by " + (limit - 1), x.shared(0, 1, 2), 0);
        due("by " + (limit - 1) + ", pairs", x.count(6), 0);
        x.set(2, limit);
        due("by " + limit, x.shared(0, 1, 2), 1);
        due("by " + limit + ", the other way", x.shared(1, 0, 2), 1);
        due("by " + limit + ", pairs", x.count(6), 1);
    }

    /** "(0 to 1000 thousandths; 50 at first)": no chance is 0. */
    static void promise14OddAtTheEndsOfLimit() {
        SameWrong x = twoAlike(7);
        due("by 50", x.shared(0, 1, 2), 1);
        isOddFrom(x, 1);
        x = two("11", "22", "22");
        due("62.5 by 50", x.shared(0, 1, 2), 0);
        x = two("1111", "2345", "2222");
        chance("1 of four or more", x, 0, 1, 175, 256);
        x.set(2, 1000);
        due("by 1000", x.shared(0, 1, 2), 1);
    }

    /** "and something is SHARED": a chance of all is no more than 1000 thousandths. */
    static void promise14OddOnlyIfSomethingIsShared() {
        SameWrong x = two("11", "23", "32");
        x.set(2, 1000);
        chance("nothing shared", x, 0, 1, 1, 1);
        due("both are wrong", x.shared(0, 1, 1), 2);
        due("odd", x.shared(0, 1, 2), 0);
        x = two("11", "11", "00");
        x.set(2, 1000);
        due("nothing both", x.shared(0, 1, 2), 0);
        due("pairs", x.count(6), 0);
    }

    /** "FULL is not ODD" */
    static void promise14OddIsNoFullOne() {
        for (int many = 7; many <= 12; many++) {
            SameWrong x = twoAlike(many);
            x.set(2, 1000);
            due("both of " + many, x.shared(0, 1, 2), many == 7 ? 1 : 0);
            due("pairs, both of " + many, x.count(6), many == 7 ? 1 : 0);
        }
    }

    // ---- promise 15: "CHANCE: above, below. BAD; FULL. (A refusal -x is the least long and x more.)"

    static void promise15ChanceRefusesOtherPupils() {
        for (int what = 0; what <= 1; what++) {
            int w = what;
            Refused.outside("a, " + what, Worlds::busy, 0, 3, Check.BAD_LONG, (x, a) -> x.chance(a, 0, w));
            Refused.outside("b, " + what, Worlds::busy, 0, 3, Check.BAD_LONG, (x, b) -> x.chance(0, b, w));
            Refused.outside("of none, " + what, Worlds::empty, 0, -1, Check.BAD_LONG, (x, b) -> x.chance(0, b, w));
        }
        Refused.call("one with oneself", Worlds::busy, Check.BAD_LONG, x -> x.chance(2, 2, 0));
    }

    static void promise15ChanceTakesWhat0To1() {
        Refused.outside("what", Worlds::busy, 0, 1, Check.BAD_LONG, (x, what) -> x.chance(0, 1, what));
    }

    /** "of BOTH (7 at most: FULL)" */
    static void promise15ChanceOfBothUpTo7() {
        long below = 1;
        for (int many = 0; many <= 7; many++) {
            chance("both of " + many, twoAlike(many), 0, 1, 1, below);
            below *= 4;
        }
        for (int many = 8; many <= 12; many++) {
            int both = many;
            Refused.call("above of " + many, () -> twoAlike(both), Check.FULL_LONG, x -> x.chance(0, 1, 0));
            Refused.call("below of " + many, () -> twoAlike(both), Check.FULL_LONG, x -> x.chance(1, 0, 1));
        }
    }

    /** It is BOTH that is 7 at most, not SHARED. */
    static void promise15ChanceOfBothNotOfShared() {
        SameWrong x = two("11111111", "22222222", "33333333");
        due("shared", x.shared(0, 1, 0), 0);
        due("both", x.shared(0, 1, 1), 8);
        due("above", x.chance(0, 1, 0), Check.FULL_LONG);
        x.answer(0, 7, 1, 0);
        chance("seven", x, 0, 1, 1, 1);
    }

    static void promise15ChanceBadAheadOfFull() {
        Refused.outside("what", () -> twoAlike(8), 0, 1, Check.BAD_LONG, (x, what) -> x.chance(0, 1, what));
        Refused.outside("b", () -> twoAlike(8), 0, 1, Check.BAD_LONG, (x, b) -> x.chance(0, b, 0));
    }

    static void promise15ChanceOfNoneIsOne() {
        chance("no answers", two("11", "", ""), 0, 1, 1, 1);
        chance("all right", two("11", "11", "11"), 0, 1, 1, 1);
        chance("all struck", two("??", "22", "22"), 0, 1, 1, 1);
        chance("none shared", two("11", "23", "34"), 0, 1, 1, 1);
    }

    /** "as many SHARED, or more": from all of three to none of them. */
    static void promise15ChanceOfAsManyOrMore() {
        chance("three", two("111", "222", "222"), 0, 1, 1, 64);
        chance("two", two("111", "222", "223"), 0, 1, 5, 32);
        chance("one", two("111", "222", "233"), 0, 1, 37, 64);
        chance("none", two("111", "222", "333"), 0, 1, 1, 1);
    }

    /** "the four WRONG CHOICES": those that are not THE KEY's, whichever that is. */
    static void promise15ChanceByEachKey() {
        for (int key = 1; key <= 5; key++) {
            int wrong = key % 5 + 1, other = wrong % 5 + 1;
            SameWrong x = two(String.valueOf(key), String.valueOf(wrong), String.valueOf(wrong));
            Check.sits(x, 0, 2, String.valueOf(other));
            Check.sits(x, 0, 3, String.valueOf(key));
            Check.sits(x, 0, 4, "0");
            // of the others one is WRONG: (4 + 1 + 1 + 1) of 25
            chance("key " + key, x, 0, 1, 7, 25);
        }
    }

    /** "of all others": neither of both counts, however many there are. */
    static void promise15ChanceByNoneToEightOthers() {
        SameWrong x = two("1", "2", "2");
        chance("no others", x, 0, 1, 1, 4);
        long[][] want = {{7, 25}, {1, 3}, {19, 49}, {7, 16}, {13, 27}, {13, 25}, {67, 121}, {7, 12}};
        for (int others = 1; others <= 8; others++) {
            Check.sits(x, others / 4 + 1, others % 4, "2");
            chance(others + " others", x, 0, 1, want[others - 1][0], want[others - 1][1]);
        }
        chance("the last two", x, 8, 9, 7, 12);
    }

    /** The greatest numbers: seven QUESTIONS with 12 by 12 each. */
    static void promise15ChanceOfTheGreatestNumbers() {
        SameWrong x = Worlds.tenAlike("1111111", "2222222");
        // (81 + 1 + 1 + 1) of 144 is 7 of 12
        chance("all alike", x, 0, 9, 823543, 35831808);
        for (int q = 0; q < 7; q++) {
            x.answer(5, q, 3, 0);
        }
        // (64 + 4 + 1 + 1) of 144 is 35 of 72
        chance("seven of seven", x, 0, 9, 64339296875L, 10030613004288L);
        x.answer(9, 6, 3, 0);
        // the seventh by (64 + 4 + 1 + 1), too: six or more: (7 * 37 + 35) * 35^6 of 72^7
        chance("six of seven", x, 0, 9, 294L * 1838265625L / 6, 10030613004288L / 6);
    }
}
