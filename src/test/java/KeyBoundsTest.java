/** Every sentence on the test itself that names a boundary, promises 1 to 7. */
public final class KeyBoundsTest {
    private static final int NONE = -1, BAD = -2, FULL = -4, SET_BAD = -5, NULL = -11;
    private static final int LEAST = Integer.MIN_VALUE, GREATEST = Integer.MAX_VALUE;

    private KeyBoundsTest() {
    }

    public static void main(String[] args) {
        Check.runPromises(KeyBoundsTest.class, 1, 7);
        Check.end();
    }

    private static void due(String call, long got, long want) {
        Check.due(call, got, want);
    }

    private static SameWrong withQuestions(int n) {
        SameWrong x = new SameWrong();
        x.questions(n);
        return x;
    }

    private static void type(SameWrong x, int b, int times) {
        for (int i = 0; i < times; i++) {
            x.type(b);
        }
    }

    // ---- promise 1: "Ten QUESTIONS, no KEY, no PUPILS; all SHEETS are LOST."

    static void promise01NewObjectHasTenQuestions() {
        SameWrong x = new SameWrong();
        due("count(0)", x.count(0), 10);
        due("key(0)", x.key(0), 0);
        due("key(9)", x.key(9), 0);
        due("key(10)", x.key(10), BAD);
        due("questions(3)", x.questions(3), 10);
    }

    static void promise01NewObjectHasNoKey() {
        SameWrong x = new SameWrong();
        due("fault()", x.fault(), 0);
        due("count(1)", x.count(1), 0);
        due("wipe()", x.wipe(), 0);
        due("the first byte", x.type('1'), 1);
    }

    static void promise01NewObjectHasNoPupils() {
        SameWrong x = new SameWrong();
        due("count(2)", x.count(2), 0);
        due("said(0, 0)", x.said(0, 0), BAD);
        due("mark(0, 0)", x.mark(0, 0), BAD);
        due("rubbed(0, 0)", x.rubbed(0, 0), BAD);
        due("beside(0, 1)", x.beside(0, 1), BAD);
        due("shared(0, 1, 0)", x.shared(0, 1, 0), BAD);
        due("chance(0, 1, 0)", x.chance(0, 1, 0), Check.BAD_LONG);
        due("from(0, 1)", x.from(0, 1), BAD);
        due("answer(0, 0, 1, 0)", x.answer(0, 0, 1, 0), BAD);
        due("write(0, 0)", x.write(0, 0), BAD);
        due("the first one", x.pupil(0, 0), 0);
    }

    static void promise01NewObjectHasNothingOfAnyPupil() {
        SameWrong x = new SameWrong();
        due("seats(0)", x.seats(0), 0);
        due("seats(1)", x.seats(1), 1000000);
        due("sources()", x.sources(), 0);
        due("chain()", x.chain(), 0);
        Check.fraction("gains(1023)", x.gains(1023, 0), x.gains(1023, 1), 1, 1);
        due("known(1023, 100)", x.known(1023, 100), BAD);
        due("lead(0, 1023, 0)", x.lead(0, 1023, 0), Check.NOT_LONG);
        due("rest(0, 1, 0)", x.rest(0, 1, 0), Check.NOT_LONG);
        due("should(9)", x.should(9), NONE);
        due("badly()", x.badly(), 0);
        due("without(9, 0)", x.without(9, 0), 0);
        due("without(9, 1)", x.without(9, 1), 0);
        due("hard(9, 0)", x.hard(9, 0), Check.NOT_LONG);
        due("parts(9, 0)", x.parts(9, 0), Check.NOT_LONG);
    }

    static void promise01NewObjectCountsNothing() {
        SameWrong x = new SameWrong();
        for (int what = 1; what <= 8; what++) {
            due("count(" + what + ")", x.count(what), 0);
        }
    }

    static void promise01NewObjectHasAllSheetsLost() {
        for (int s = 0; s < 4; s++) {
            due("lose(" + s + ")", new SameWrong().lose(s), NULL);
            for (int form = 0; form < 3; form++) {
                due("put(" + s + ", " + form + ")", new SameWrong().put(s, form, 0, 0), NULL);
            }
        }
    }

    static void promise01NewObjectHasAsOf999Pass50Limit50() {
        SameWrong x = new SameWrong();
        due("AS OF", x.set(0, 999), 999);
        due("PASS", x.set(1, 50), 50);
        due("LIMIT", x.set(2, 50), 50);
    }

    static void promise01ObjectsHaveNothingInCommon() {
        SameWrong first = Worlds.full();
        SameWrong x = new SameWrong();
        first.lose(0);
        first.lose(0);
        due("the new one's finding", x.count(8), 0);
        due("the full one's finding", first.count(8), 1);
        Check.alike("a new one beside a full one", Look.at(x), Look.at(new SameWrong()));
        due("the full one's tellings", first.count(3), 150);
    }

    /** "An object is used for at most 512 calls after it has been made": the last of them is as good. */
    static void promise01The512thCallAnswers() {
        SameWrong x = new SameWrong();
        for (int call = 1; call <= 511; call++) {
            due("call " + call, x.questions(1 + call % 12), call == 1 ? 10 : 1 + (call - 1) % 12);
        }
        due("call 512", x.count(0), 1 + 511 % 12);
    }

    // ---- promise 2: "QUESTIONS are 0 to n less 1 (n 1 to 12; 10 at first)"; "how many there were .. BAD"

    static void promise02QuestionsTakes1To12() {
        for (int n = 1; n <= 12; n++) {
            SameWrong x = new SameWrong();
            due("questions(" + n + ")", x.questions(n), 10);
            due("count(0)", x.count(0), n);
            due("questions(" + n + ") again", x.questions(n), n);
            due("questions(1)", x.questions(1), n);
            due("questions(12)", x.questions(12), 1);
            due("questions(10)", x.questions(10), 12);
        }
    }

    static void promise02QuestionsRefusesAllElse() {
        Refused.outside("questions", Worlds::empty, 1, 12, BAD, SameWrong::questions);
        Refused.outside("questions", Worlds::busy, 1, 12, BAD, SameWrong::questions);
        Refused.outside("questions", Worlds::full, 1, 12, BAD, SameWrong::questions);
    }

    static void promise02QuestionsTheLastIsNLess1() {
        for (int n = 1; n <= 12; n++) {
            SameWrong x = withQuestions(n);
            x.pupil(0, 0);
            due("answer to the last of " + n, x.answer(0, n - 1, 3, 0), 1);
            due("answer to one more than " + n, x.answer(0, n, 3, 0), BAD);
            due("said to the last of " + n, x.said(0, n - 1), 3);
            due("said to one more than " + n, x.said(0, n), BAD);
            due("should of the last of " + n, x.should(n - 1), 3);
            due("should of one more than " + n, x.should(n), BAD);
        }
    }

    /** "(what was told of others is kept)" */
    static void promise02QuestionsKeepsWhatWasToldOfOthers() {
        SameWrong x = Check.test("111111111111");
        Check.sits(x, 0, 0, "111111111112");
        x.answer(0, 11, 1, 1);
        x.questions(1);
        due("mark is 0 by the fault", x.mark(0, 0), 0);
        due("answers of one", x.count(4), 1);
        due("rubbed of one", x.rubbed(0, 0), 0);
        due("tellings", x.count(3), 13);
        x.questions(12);
        due("said again", x.said(0, 11), 1);
        due("mark again", x.mark(0, 0), 12);
        due("rubbed again", x.rubbed(0, 0), 1);
        due("to right from wrong again", x.rubbed(0, 1), 1);
    }

    /** What was told of a QUESTION while others were not there is no less kept AS OF a TIME. */
    static void promise02QuestionsKeepsAsOf() {
        SameWrong x = withQuestions(12);
        x.pupil(0, 0);
        x.answer(0, 11, 4, 5);
        x.questions(2);
        x.set(0, 4);
        x.questions(12);
        due("not yet", x.said(0, 11), 0);
        x.questions(2);
        x.set(0, 5);
        x.questions(12);
        due("then", x.said(0, 11), 4);
    }

    // ---- promise 3: "A byte (0 to 255) comes behind THE KEY: how many. BAD; FULL."

    static void promise03TypeTakes0To255() {
        for (int b = 0; b <= 255; b++) {
            SameWrong x = new SameWrong();
            due("type(" + b + ")", x.type(b), 1);
            due("type(" + b + ") again", x.type(b), 2);
        }
    }

    static void promise03TypeRefusesAllElse() {
        Refused.outside("type", Worlds::empty, 0, 255, BAD, SameWrong::type);
        Refused.outside("type", Worlds::busy, 0, 255, BAD, SameWrong::type);
    }

    /** "THE KEY is a text of up to 12 bytes" */
    static void promise03TypeTakesTwelveBytes() {
        for (int n : new int[] {1, 10, 12}) {
            SameWrong x = withQuestions(n);
            for (int i = 1; i <= 12; i++) {
                due("byte " + i + " with " + n + " questions", x.type('0' + i % 6), i);
            }
            due("byte 13 with " + n + " questions", x.type('1'), FULL);
            due("bytes", x.wipe(), 12);
        }
    }

    static void promise03TypeFullChangesNothing() {
        Refused.call("type('5')", Worlds::full, FULL, x -> x.type('5'));
        Refused.call("type(0)", Worlds::full, FULL, x -> x.type(0));
        Refused.call("type(255)", Worlds::full, FULL, x -> x.type(255));
    }

    static void promise03TypeBadAheadOfFull() {
        Refused.outside("type", Worlds::full, 0, 255, BAD, SameWrong::type);
    }

    // ---- promise 4: "THE KEY is empty: how many bytes it had."

    static void promise04WipeTellsHowManyBytes() {
        for (int many = 0; many <= 12; many++) {
            SameWrong x = new SameWrong();
            type(x, '2', many);
            due("wipe of " + many, x.wipe(), many);
            due("wipe of none", x.wipe(), 0);
        }
    }

    static void promise04WipeLeavesAnEmptyKey() {
        SameWrong x = Worlds.full();
        x.wipe();
        due("fault", x.fault(), 0);
        due("not struck", x.count(1), 0);
        for (int q = 0; q < 12; q++) {
            due("key(" + q + ")", x.key(q), 0);
        }
    }

    static void promise04WipeMakesRoomForTwelve() {
        SameWrong x = Worlds.full();
        x.wipe();
        for (int i = 1; i <= 12; i++) {
            due("byte " + i, x.type('3'), i);
        }
        due("byte 13", x.type('3'), FULL);
        due("no fault", x.fault(), NONE);
        due("the last", x.key(11), 3);
    }

    static void promise04WipeLeavesAllElse() {
        SameWrong x = Worlds.busy(), twin = Worlds.busy();
        due("wipe", x.wipe(), 7);
        Check.type(x, "12345?1");
        Check.alike("typed anew", Look.at(x), Look.at(twin));
    }

    // ---- promise 5: "The FAULT; NONE."

    /** "for each QUESTION a figure 1 to 5, or ?" */
    static void promise05FaultOfEachByte() {
        for (int b = 0; b <= 255; b++) {
            boolean isGood = b == '?' || b == '1' || b == '2' || b == '3' || b == '4' || b == '5';
            for (int at = 0; at < 12; at += 11) {
                SameWrong x = withQuestions(at + 1);
                type(x, '1', at);
                x.type(b);
                due("byte " + b + " at " + at, x.fault(), isGood ? NONE : at);
            }
        }
    }

    /** "of a shorter one its end" */
    static void promise05FaultOfAShorterKeyIsItsEnd() {
        for (int n = 1; n <= 12; n++) {
            SameWrong x = withQuestions(n);
            for (int many = 0; many < n; many++) {
                due(many + " bytes for " + n, x.fault(), many);
                x.type('?');
            }
            due("as many bytes as questions, " + n, x.fault(), NONE);
        }
    }

    /** "behind that of the last QUESTION: there" */
    static void promise05FaultOfALongerKeyIsBehindTheLast() {
        for (int n = 1; n <= 11; n++) {
            SameWrong x = withQuestions(n);
            type(x, '5', n);
            due("no fault with " + n, x.fault(), NONE);
            for (int more = n; more < 12; more++) {
                x.type(more == n ? '1' : 'x');
                due((more + 1) + " bytes for " + n, x.fault(), n);
            }
        }
    }

    /** "the first byte with which it cannot go on" */
    static void promise05FaultIsTheFirst() {
        SameWrong x = withQuestions(5);
        Check.type(x, "12x4y6z");
        due("two wrong ones, and too long", x.fault(), 2);
        x.questions(12);
        due("two wrong ones, and too short", x.fault(), 2);
        x.questions(2);
        due("the wrong one is behind the last", x.fault(), 2);
        x.questions(1);
        due("a good one is behind the last", x.fault(), 1);
        x.questions(3);
        due("the wrong one is the last", x.fault(), 2);
    }

    static void promise05FaultOfTwelveForTwelve() {
        SameWrong x = withQuestions(12);
        type(x, '1', 11);
        due("eleven", x.fault(), 11);
        x.type('5');
        due("twelve", x.fault(), NONE);
        x.questions(11);
        due("twelve for eleven", x.fault(), 11);
        x.questions(1);
        due("twelve for one", x.fault(), 1);
        x.questions(12);
        due("twelve again", x.fault(), NONE);
    }

    // ---- promise 6: "What THE KEY says of a QUESTION; 0: it is STRUCK. BAD."

    static void promise06KeyTellsFiguresAndStruck() {
        SameWrong x = Check.test("12345?");
        for (int q = 0; q < 5; q++) {
            due("key(" + q + ")", x.key(q), q + 1);
        }
        due("key(5)", x.key(5), 0);
        due("not struck", x.count(1), 5);
    }

    static void promise06KeyRefusesAllElse() {
        Refused.outside("key", Worlds::empty, 0, 9, BAD, SameWrong::key);
        Refused.outside("key", Worlds::busy, 0, 6, BAD, SameWrong::key);
        Refused.outside("key", Worlds::full, 0, 11, BAD, SameWrong::key);
        Refused.outside("key", () -> withQuestions(1), 0, 0, BAD, SameWrong::key);
    }

    /** "With a FAULT all QUESTIONS are STRUCK." */
    static void promise06KeyWithAFaultIsAllStruck() {
        String[] keys = {"", "1", "1111", "111111", "x1111", "1111x", "11x11", "111110"};
        for (String key : keys) {
            SameWrong x = withQuestions(5);
            Check.type(x, key);
            due("'" + key + "' not struck", x.count(1), 0);
            for (int q = 0; q < 5; q++) {
                due("'" + key + "' key(" + q + ")", x.key(q), 0);
            }
        }
    }

    static void promise06KeyComesBackWithoutTheFault() {
        SameWrong x = Check.test("54321");
        x.questions(4);
        due("a fault", x.key(0), 0);
        x.questions(5);
        due("none", x.key(0), 5);
        due("none, the last", x.key(4), 1);
        x.questions(6);
        due("a fault, the last", x.key(5), 0);
        x.type('?');
        due("struck by itself", x.key(5), 0);
        due("five are not", x.count(1), 5);
    }

    // ---- promise 7: "AS OF (what = 0), PASS (1), LIMIT (2): what it was. BAD: -5."

    static void promise07SetAsOfTakes0To999() {
        takes(0, 999, 999);
    }

    static void promise07SetPassTakes0To100() {
        takes(1, 100, 50);
    }

    static void promise07SetLimitTakes0To1000() {
        takes(2, 1000, 50);
    }

    private static void takes(int what, int most, int atFirst) {
        SameWrong x = new SameWrong();
        due("set(" + what + ", 0)", x.set(what, 0), atFirst);
        due("set(" + what + ", 1)", x.set(what, 1), 0);
        due("set(" + what + ", " + most + ")", x.set(what, most), 1);
        due("set(" + what + ", less)", x.set(what, most - 1), most);
        due("set(" + what + ", 0)", x.set(what, 0), most - 1);
        due("set(" + what + ", -1)", x.set(what, -1), SET_BAD);
        due("set(" + what + ", " + (most + 1) + ")", x.set(what, most + 1), SET_BAD);
        due("set(" + what + ", as it is)", x.set(what, 0), 0);
    }

    static void promise07SetRefusesAllElse() {
        int[] most = {999, 100, 1000};
        for (int what = 0; what < 3; what++) {
            int w = what;
            Refused.outside("set " + what, Worlds::empty, 0, most[what], SET_BAD, (x, v) -> x.set(w, v));
            Refused.outside("set " + what, Worlds::busy, 0, most[what], SET_BAD, (x, v) -> x.set(w, v));
        }
    }

    static void promise07SetRefusesAnyOtherWhat() {
        for (int v : new int[] {0, 50, 100, 999, 1000, -1, LEAST, GREATEST}) {
            Refused.outside("set to " + v, Worlds::busy, 0, 2, SET_BAD, (x, what) -> x.set(what, v));
        }
    }

    /** What one takes and the others don't: each has its own end. */
    static void promise07SetEachHasItsOwnEnd() {
        SameWrong x = new SameWrong();
        due("AS OF 101", x.set(0, 101), 999);
        due("PASS 101", x.set(1, 101), SET_BAD);
        due("LIMIT 101", x.set(2, 101), 50);
        due("AS OF 1000", x.set(0, 1000), SET_BAD);
        due("LIMIT 1000", x.set(2, 1000), 101);
        due("AS OF still", x.set(0, 999), 101);
        due("PASS still", x.set(1, 0), 50);
    }

    /** "AS OF a TIME .. what was told up to then is so" */
    static void promise07SetAsOfCountsUpToThen() {
        for (int time : new int[] {0, 1, 500, 998, 999}) {
            SameWrong x = Check.test("1");
            x.pupil(0, 0);
            x.answer(0, 0, 2, time);
            x.answer(0, 0, 1, time);
            due("as of " + time, asOf(x, time), 1);
            due("as of " + time + ": rubbed", x.rubbed(0, 1), 1);
            if (time > 0) {
                due("as of " + (time - 1), asOf(x, time - 1), 0);
                due("as of " + (time - 1) + ": rubbed", x.rubbed(0, 1), 0);
            }
            due("as of 999", asOf(x, 999), 1);
        }
    }

    private static int asOf(SameWrong x, int time) {
        x.set(0, time);
        return x.said(0, 0);
    }

    /** "(.. for what was RUBBED OUT, too)" */
    static void promise07SetAsOfCountsRubbedUpToThen() {
        SameWrong x = Check.test("1");
        x.pupil(0, 0);
        x.answer(0, 0, 2, 3);
        x.answer(0, 0, 1, 4);
        x.answer(0, 0, 3, 5);
        int[] rubbed = {0, 0, 0, 0, 1, 2, 2};
        for (int time = 0; time < rubbed.length; time++) {
            x.set(0, time);
            due("as of " + time + ": rubbed", x.rubbed(0, 0), rubbed[time]);
            due("as of " + time + ": count(7)", x.count(7), rubbed[time]);
            due("as of " + time + ": to wrong from right", x.rubbed(0, 2), time >= 5 ? 1 : 0);
        }
    }

    /** What is told later than AS OF is kept, but not so until AS OF comes there. */
    static void promise07SetAsOfBeforeWhatIsToldNext() {
        SameWrong x = Check.test("1");
        x.pupil(0, 0);
        x.set(0, 0);
        due("told at 1", x.answer(0, 0, 4, 1), 1);
        due("as of 0", x.said(0, 0), 0);
        due("told at 0 now", x.answer(0, 0, 5, 0), BAD);
        due("as of 1", asOf(x, 1), 4);
        due("told at 1 again", x.answer(0, 0, 5, 1), 2);
        due("at once", x.said(0, 0), 5);
    }
}
