/** Every sentence on pupils and their answers that names a boundary, promises 8 to 12. */
public final class PupilBoundsTest {
    private static final int BAD = -2, FULL = -4, NULL = -11;
    private static final int LEAST = Integer.MIN_VALUE, GREATEST = Integer.MAX_VALUE;

    private PupilBoundsTest() {
    }

    public static void main(String[] args) {
        Check.runPromises(PupilBoundsTest.class, 8, 12);
        Check.end();
    }

    private static void due(String call, long got, long want) {
        Check.due(call, got, want);
    }

    private static SameWrong withPupils(int many) {
        SameWrong x = new SameWrong();
        for (int p = 0; p < many; p++) {
            x.pupil(p / 5, p % 5);
        }
        return x;
    }

    /** One pupil, so many tellings, the latest at the time. */
    private static SameWrong told(int many, int time) {
        SameWrong x = withPupils(1);
        for (int i = 0; i < many; i++) {
            x.answer(0, 0, 1 + i % 5, time);
        }
        return x;
    }

    // ---- promise 8: "A PUPIL more, on a SEAT: the number. BAD: also a SEAT that is taken; FULL."

    /** "a ROW (0 to 3), a PLACE (0 to 4)" */
    static void promise08PupilTakesAllSeats() {
        for (int row = 0; row <= 3; row++) {
            for (int place = 0; place <= 4; place++) {
                SameWrong x = new SameWrong();
                due("pupil(" + row + ", " + place + ")", x.pupil(row, place), 0);
                due("how many", x.count(2), 1);
            }
        }
    }

    static void promise08PupilRefusesOtherRows() {
        for (int place : new int[] {0, 4}) {
            Refused.outside("row, place " + place, Worlds::empty, 0, 3, BAD, (x, row) -> x.pupil(row, place));
            Refused.outside("row, place " + place, Worlds::busy, 0, 3, BAD, (x, row) -> x.pupil(row, place));
        }
    }

    static void promise08PupilRefusesOtherPlaces() {
        for (int row : new int[] {0, 3}) {
            Refused.outside("place, row " + row, Worlds::empty, 0, 4, BAD, (x, place) -> x.pupil(row, place));
            Refused.outside("place, row " + row, Worlds::busy, 0, 4, BAD, (x, place) -> x.pupil(row, place));
        }
    }

    /** A place just beyond a row is not the first one of the next row. */
    static void promise08PupilSeatsAreNotCountedOn() {
        SameWrong x = new SameWrong();
        due("pupil(1, 0)", x.pupil(1, 0), 0);
        due("pupil(0, 4)", x.pupil(0, 4), 1);
        due("pupil(0, 5)", x.pupil(0, 5), BAD);
        due("pupil(1, -1)", x.pupil(1, -1), BAD);
        due("pupil(0, 1)", x.pupil(0, 1), 2);
    }

    /** "none two the same" */
    static void promise08PupilRefusesATakenSeat() {
        Refused.call("pupil(0, 0)", Worlds::busy, BAD, x -> x.pupil(0, 0));
        Refused.call("pupil(1, 1)", Worlds::busy, BAD, x -> x.pupil(1, 1));
        Refused.call("pupil(3, 4)", Worlds::busy, BAD, x -> x.pupil(3, 4));
        SameWrong x = new SameWrong();
        due("pupil(1, 3)", x.pupil(1, 3), 0);
        due("the same row", x.pupil(1, 2), 1);
        due("the same place", x.pupil(2, 3), 2);
        due("row and place the other way", x.pupil(3, 1), 3);
        due("the same", x.pupil(1, 3), BAD);
    }

    /** "PUPILS, 10 at most" */
    static void promise08PupilTakesTen() {
        SameWrong x = new SameWrong();
        for (int p = 0; p < 10; p++) {
            due("pupil " + p, x.pupil(3 - p / 5, p % 5), p);
            due("how many", x.count(2), p + 1);
        }
        due("the eleventh", x.pupil(0, 0), FULL);
        due("how many", x.count(2), 10);
        due("the last one there", x.said(9, 0), 0);
        due("none behind", x.said(10, 0), BAD);
    }

    static void promise08PupilFullChangesNothing() {
        Refused.call("pupil(2, 0)", Worlds::full, FULL, x -> x.pupil(2, 0));
        Refused.call("pupil(3, 4)", Worlds::full, FULL, x -> x.pupil(3, 4));
    }

    static void promise08PupilBadAheadOfFull() {
        Refused.call("taken, the first", Worlds::full, BAD, x -> x.pupil(0, 0));
        Refused.call("taken, the last", Worlds::full, BAD, x -> x.pupil(1, 4));
        Refused.outside("row", Worlds::full, 0, 3, BAD, (x, row) -> x.pupil(row, 0));
        Refused.outside("place", Worlds::full, 0, 4, BAD, (x, place) -> x.pupil(3, place));
    }

    /** A refused one takes no number and no SEAT. */
    static void promise08PupilRefusedTakesNoNumber() {
        SameWrong x = new SameWrong();
        x.pupil(0, 0);
        x.pupil(0, 0);
        x.pupil(4, 0);
        due("the next", x.pupil(3, 4), 1);
    }

    // ---- promise 9: "An ANSWER is told at a TIME: how many TELLINGS."

    static void promise09AnswerTakesPupilsThatAreThere() {
        SameWrong x = withPupils(10);
        due("the first", x.answer(0, 0, 1, 0), 1);
        due("the last", x.answer(9, 0, 1, 0), 2);
        Refused.outside("pupil of none", Worlds::empty, 0, -1, BAD, (y, p) -> y.answer(p, 0, 1, 0));
        Refused.outside("pupil of one", () -> withPupils(1), 0, 0, BAD, (y, p) -> y.answer(p, 0, 1, 0));
        Refused.outside("pupil of four", Worlds::busy, 0, 3, BAD, (y, p) -> y.answer(p, 0, 1, 9));
        Refused.outside("pupil of ten", () -> withPupils(10), 0, 9, BAD, (y, p) -> y.answer(p, 0, 1, 0));
    }

    static void promise09AnswerTakesQuestionsThatAreThere() {
        for (int n : new int[] {1, 7, 12}) {
            SameWrong x = withPupils(1);
            x.questions(n);
            due("the first of " + n, x.answer(0, 0, 1, 0), 1);
            due("the last of " + n, x.answer(0, n - 1, 1, 0), 2);
            due("one more than " + n, x.answer(0, n, 1, 0), BAD);
        }
        Refused.outside("question of seven", Worlds::busy, 0, 6, BAD, (y, q) -> y.answer(0, q, 1, 9));
        Refused.outside("question of ten", () -> withPupils(1), 0, 9, BAD, (y, q) -> y.answer(0, q, 1, 9));
    }

    /** "BAD: also a QUESTION that there is not now" */
    static void promise09AnswerRefusesAQuestionThatIsNotThereNow() {
        Refused.Maker fewer = () -> {
            SameWrong x = withPupils(1);
            x.answer(0, 9, 4, 0);
            x.questions(9);
            return x;
        };
        Refused.call("answer to 9", fewer, BAD, x -> x.answer(0, 9, 1, 0));
        SameWrong x = fewer.make();
        due("the last that is there", x.answer(0, 8, 1, 0), 2);
        x.questions(10);
        due("there again", x.answer(0, 9, 1, 0), 3);
    }

    /** "An ANSWER .. (0 to 5)" */
    static void promise09AnswerTakes0To5() {
        SameWrong x = withPupils(1);
        for (int v = 0; v <= 5; v++) {
            due("answer " + v, x.answer(0, 0, v, 0), v + 1);
            due("said " + v, x.said(0, 0), v);
        }
        Refused.outside("answer", () -> withPupils(1), 0, 5, BAD, (y, v) -> y.answer(0, 0, v, 0));
        Refused.outside("answer", Worlds::busy, 0, 5, BAD, (y, v) -> y.answer(3, 6, v, 999));
    }

    /** "at a TIME (0 to 999 ..)" */
    static void promise09AnswerTakesTimes0To999() {
        due("at 0", withPupils(1).answer(0, 0, 1, 0), 1);
        due("at 999", withPupils(1).answer(0, 0, 1, 999), 1);
        due("at 1000", withPupils(1).answer(0, 0, 1, 1000), BAD);
        due("at -1", withPupils(1).answer(0, 0, 1, -1), BAD);
        SameWrong x = told(1, 999);
        due("at 999 again", x.answer(0, 0, 2, 999), 2);
        due("at 1000 behind 999", x.answer(0, 0, 2, 1000), BAD);
        Refused.outside("time", () -> withPupils(1), 0, 999, BAD, (y, t) -> y.answer(0, 0, 1, t));
        Refused.outside("time", Worlds::busy, 8, 999, BAD, (y, t) -> y.answer(0, 0, 1, t));
    }

    /** "not less than the one ahead", "a TIME less than the one before" */
    static void promise09AnswerRefusesATimeLessThanTheOneBefore() {
        for (int time : new int[] {1, 500, 999}) {
            Refused.call("less than " + time, () -> told(1, time), BAD, x -> x.answer(0, 0, 1, time - 1));
            Refused.call("0 behind " + time, () -> told(1, time), BAD, x -> x.answer(0, 0, 1, 0));
            due("as much as " + time, told(1, time).answer(0, 0, 1, time), 2);
        }
        SameWrong x = withPupils(2);
        x.answer(0, 0, 1, 7);
        due("of another pupil, to another question", x.answer(1, 9, 1, 6), BAD);
        due("as much", x.answer(1, 9, 1, 7), 2);
        due("more", x.answer(1, 9, 1, 8), 3);
        due("as much as the one but last", x.answer(0, 0, 1, 7), BAD);
    }

    /** The one before is the latest that was told, whatever AS OF is and whatever QUESTIONS there are. */
    static void promise09AnswerTheOneBeforeIsTheLatestTold() {
        SameWrong x = withPupils(1);
        x.answer(0, 9, 1, 7);
        x.set(0, 3);
        due("as of 3, at 6", x.answer(0, 0, 1, 6), BAD);
        x.questions(1);
        due("with one question, at 6", x.answer(0, 0, 1, 6), BAD);
        due("at 7", x.answer(0, 0, 1, 7), 2);
    }

    static void promise09AnswerRefusedMovesNoTime() {
        SameWrong x = withPupils(1);
        x.answer(1, 0, 1, 900);
        x.answer(0, 10, 1, 900);
        x.answer(0, 0, 6, 900);
        due("at 0", x.answer(0, 0, 1, 0), 1);
    }

    /** "150 TELLINGS at most": every one counts, one with the same ANSWER and one of 0, too. */
    static void promise09AnswerTakes150Tellings() {
        SameWrong x = withPupils(2);
        for (int i = 1; i <= 150; i++) {
            due("telling " + i, x.answer(i % 2, i % 10, i % 3 == 0 ? 0 : 2, i), i);
        }
        due("telling 151", x.answer(0, 0, 1, 150), FULL);
        due("how many", x.count(3), 150);
        due("the last is so", x.said(0, 0), 0);
    }

    static void promise09AnswerFullChangesNothing() {
        Refused.call("another", Worlds::full, FULL, x -> x.answer(0, 0, 2, 14));
        Refused.call("none", Worlds::full, FULL, x -> x.answer(9, 5, 0, 999));
        Refused.call("the same", Worlds::full, FULL, x -> x.answer(9, 5, x.said(9, 5), 14));
        Refused.call("as of 0", () -> {
            SameWrong x = Worlds.full();
            x.set(0, 0);
            return x;
        }, FULL, x -> x.answer(0, 0, 2, 14));
    }

    static void promise09AnswerBadAheadOfFull() {
        Refused.outside("pupil", Worlds::full, 0, 9, BAD, (x, p) -> x.answer(p, 0, 1, 14));
        Refused.outside("question", Worlds::full, 0, 11, BAD, (x, q) -> x.answer(0, q, 1, 14));
        Refused.outside("answer", Worlds::full, 0, 5, BAD, (x, v) -> x.answer(0, 0, v, 14));
        Refused.outside("time", Worlds::full, 14, 999, BAD, (x, t) -> x.answer(0, 0, 1, t));
    }

    // ---- promise 10: read: ".. up to the first that it refuses: how many it took. BAD: likewise; NULL."

    private static SameWrong oneWithSheet(int form, int... items) {
        SameWrong x = withPupils(1);
        x.sheet(0, form, items.length);
        for (int i = 0; i < items.length; i++) {
            x.put(0, form, i, items[i]);
        }
        return x;
    }

    static void promise10ReadTakesSheets0To3() {
        for (int s = 0; s < 4; s++) {
            SameWrong x = withPupils(1);
            x.sheet(s, 0, 1);
            x.put(s, 0, 0, 4);
            due("read of " + s, x.read(s, 0, 0), 1);
            due("said", x.said(0, 0), 4);
        }
        Refused.outside("sheet", Worlds::busy, 0, 3, BAD, (x, s) -> x.read(s, 0, 8));
        Refused.outside("sheet", Worlds::empty, 0, 3, BAD, (x, s) -> x.read(s, 0, 8));
    }

    static void promise10ReadTakesPupilsThatAreThere() {
        SameWrong x = withPupils(10);
        x.sheet(0, 0, 1);
        due("the first", x.read(0, 0, 0), 1);
        due("the last", x.read(0, 9, 0), 1);
        Refused.outside("pupil", Worlds::busy, 0, 3, BAD, (y, p) -> y.read(0, p, 8));
        Refused.outside("pupil, lost sheet", Worlds::busy, 0, 3, BAD, (y, p) -> y.read(3, p, 8));
        Refused.outside("pupil of none", Worlds::empty, 0, -1, BAD, (y, p) -> y.read(0, p, 8));
    }

    static void promise10ReadTakesTimes0To999() {
        for (int time : new int[] {0, 999}) {
            due("at " + time, oneWithSheet(0, 1, 2).read(0, 0, time), 2);
        }
        Refused.outside("time", () -> oneWithSheet(0, 1), 0, 999, BAD, (x, t) -> x.read(0, 0, t));
        Refused.outside("time", Worlds::busy, 8, 999, BAD, (x, t) -> x.read(0, 0, t));
        Refused.outside("time, lost sheet", Worlds::busy, 8, 999, BAD, (x, t) -> x.read(3, 0, t));
    }

    static void promise10ReadRefusesATimeLessThanTheOneBefore() {
        SameWrong x = oneWithSheet(0, 1, 2);
        due("at 7", x.read(0, 0, 7), 2);
        due("at 6", x.read(0, 0, 6), BAD);
        due("at 7 again", x.read(0, 0, 7), 2);
        x.sheet(0, 0, 0);
        due("at 6, no items", x.read(0, 0, 6), BAD);
        due("tellings", x.count(3), 4);
    }

    /** "1 NULL: the SHEET is LOST", at first and when it was lost. */
    static void promise10ReadNullOfALostSheet() {
        for (int s = 0; s < 4; s++) {
            int lost = s;
            Refused.call("read of " + s, () -> withPupils(1), NULL, x -> x.read(lost, 0, 0));
        }
        Refused.call("lost", () -> {
            SameWrong x = oneWithSheet(0, 1, 2);
            x.lose(0);
            return x;
        }, NULL, x -> x.read(0, 0, 0));
        Refused.call("lost, 999", Worlds::busy, NULL, x -> x.read(3, 3, 999));
    }

    static void promise10ReadBadAheadOfNull() {
        Refused.call("pupil and lost", Worlds::busy, BAD, x -> x.read(3, 4, 8));
        Refused.call("time and lost", Worlds::busy, BAD, x -> x.read(3, 0, 7));
        Refused.call("no pupils and lost", Worlds::empty, BAD, x -> x.read(0, 0, 0));
    }

    static void promise10ReadNoItems() {
        SameWrong x = oneWithSheet(0);
        due("read", x.read(0, 0, 999), 0);
        due("tellings", x.count(3), 0);
        due("no time was told", x.answer(0, 0, 1, 0), 1);
    }

    static void promise10ReadAsManyAsItemsOrQuestions() {
        for (int n : new int[] {1, 5, 12}) {
            for (int items : new int[] {0, 1, 4, 5, 6, 11, 12, 13, 48}) {
                SameWrong x = withPupils(1);
                x.questions(n);
                x.sheet(0, 2, items);
                due(items + " items, " + n + " questions", x.read(0, 0, 3), Math.min(n, items));
                due("tellings", x.count(3), Math.min(n, items));
                due("no finding", x.count(8), 0);
            }
        }
    }

    /** "up to the first that it refuses": what came ahead of it is told, what comes behind is not. */
    static void promise10ReadStopsAtTheFirstRefused() {
        for (int bad : new int[] {6, -1, 127, -128}) {
            for (int at = 0; at < 4; at++) {
                SameWrong x = oneWithSheet(0, 1, 2, 3, 5);
                x.put(0, 0, at, bad);
                due("item " + at + " is " + bad, x.read(0, 0, 0), at);
                due("tellings", x.count(3), at);
                for (int q = 0; q < 4; q++) {
                    due("said to " + q, x.said(0, q), q < at ? q == 3 ? 5 : q + 1 : 0);
                }
            }
        }
    }

    static void promise10ReadFirstRefusedMovesNoTime() {
        SameWrong x = oneWithSheet(0, 6, 1);
        due("read", x.read(0, 0, 999), 0);
        due("at 0", x.answer(0, 0, 1, 0), 1);
    }

    static void promise10ReadItemsOfEachForm() {
        int[][] beyond = {{6, -1, 127, -128}, {6, -1, 256 + 1, 32767, -32768},
            {6, -1, 256 + 1, 65536 + 1, LEAST, GREATEST}};
        for (int form = 0; form < 3; form++) {
            SameWrong x = oneWithSheet(form, 0, 1, 2, 3, 4, 5);
            due("form " + form, x.read(0, 0, 0), 6);
            due("form " + form + ", said 5", x.said(0, 5), 5);
            for (int v : beyond[form]) {
                due("form " + form + ", item " + v, oneWithSheet(form, 5, v, 5).read(0, 0, 0), 1);
            }
        }
    }

    /** As answer() is FULL then, it stops there. */
    static void promise10ReadUpTo150Tellings() {
        for (int told : new int[] {146, 147, 148, 149, 150}) {
            SameWrong x = told(told, 5);
            x.sheet(0, 0, 3);
            due("read behind " + told, x.read(0, 0, 5), Math.min(3, 150 - told));
            due("tellings", x.count(3), Math.min(150, told + 3));
        }
    }

    static void promise10ReadRefusalsWhenTellingsAreFull() {
        Refused.call("takes none", Worlds::full, 0, x -> x.read(0, 0, 14));
        Refused.call("time", Worlds::full, BAD, x -> x.read(0, 0, 13));
        Refused.call("pupil", Worlds::full, BAD, x -> x.read(0, 10, 14));
        Refused.call("lost", Worlds::full, NULL, x -> x.read(3, 0, 14));
    }

    /** The SHEET stays as it is. */
    static void promise10ReadLeavesTheSheet() {
        SameWrong x = oneWithSheet(1, 3, 9, 4);
        x.read(0, 0, 0);
        due("item 0", x.get(0, 1, 0), 3);
        due("item 1", x.get(0, 1, 1), 9);
        due("item 2", x.get(0, 1, 2), 4);
        due("items", x.lose(0), 3);
    }

    // ---- promise 11: "The ANSWER of a PUPIL. BAD."

    static void promise11SaidIs0AtFirst() {
        SameWrong x = withPupils(10);
        x.questions(12);
        for (int p = 0; p < 10; p++) {
            for (int q = 0; q < 12; q++) {
                due("said(" + p + ", " + q + ")", x.said(p, q), 0);
            }
        }
    }

    /** Each PUPIL and QUESTION has an ANSWER of its own, from the first to the last. */
    static void promise11SaidOfEachAlone() {
        int[][] corners = {{0, 0}, {0, 11}, {9, 0}, {9, 11}, {1, 0}, {0, 1}};
        for (int[] c : corners) {
            SameWrong x = withPupils(10);
            x.questions(12);
            x.answer(c[0], c[1], 5, 0);
            for (int[] d : corners) {
                due("said(" + d[0] + ", " + d[1] + ")", x.said(d[0], d[1]), c == d ? 5 : 0);
            }
            due("answers in all", x.count(4), 1);
        }
    }

    /** "the latest is so", with the same TIME, too; 0 takes an ANSWER back. */
    static void promise11SaidIsTheLatest() {
        SameWrong x = withPupils(1);
        for (int v : new int[] {5, 1, 1, 0, 4, 0}) {
            x.answer(0, 0, v, 0);
            due("told " + v, x.said(0, 0), v);
        }
    }

    static void promise11SaidRefusesAllElse() {
        Refused.outside("pupil", Worlds::busy, 0, 3, BAD, (x, p) -> x.said(p, 0));
        Refused.outside("question", Worlds::busy, 0, 6, BAD, (x, q) -> x.said(0, q));
        Refused.outside("pupil", Worlds::full, 0, 9, BAD, (x, p) -> x.said(p, 11));
        Refused.outside("question", Worlds::full, 0, 11, BAD, (x, q) -> x.said(9, q));
        Refused.outside("pupil of none", Worlds::empty, 0, -1, BAD, (x, p) -> x.said(p, 0));
    }

    // ---- promise 12: "Whether two are NEIGHBOURS: 1, 0. BAD: also one with oneself."

    /** "neither ROWS nor PLACES differ by more than 1" */
    static void promise12BesideOfAllSeats() {
        for (int seat = 0; seat < 20; seat++) {
            for (int other = 0; other < 20; other++) {
                if (seat != other) {
                    int rows = Math.abs(seat / 5 - other / 5), places = Math.abs(seat % 5 - other % 5);
                    SameWrong x = new SameWrong();
                    x.pupil(seat / 5, seat % 5);
                    x.pupil(other / 5, other % 5);
                    int want = Math.max(rows, places) == 1 ? 1 : 0;
                    due("seats " + seat + ", " + other, x.beside(0, 1), want);
                    due("seats " + seat + ", " + other + " the other way", x.beside(1, 0), want);
                }
            }
        }
    }

    static void promise12BesideRefusesOneWithOneself() {
        for (int p = 0; p < 10; p++) {
            int self = p;
            Refused.call("beside(" + p + ", " + p + ")", () -> withPupils(10), BAD, x -> x.beside(self, self));
        }
    }

    static void promise12BesideRefusesAllElse() {
        Refused.outside("a", Worlds::busy, 0, 3, BAD, (x, a) -> x.beside(a, 0));
        Refused.outside("b", Worlds::busy, 0, 3, BAD, (x, b) -> x.beside(0, b));
        Refused.outside("both", Worlds::busy, 0, 3, BAD, (x, a) -> x.beside(a, a));
        Refused.outside("a of ten", Worlds::full, 0, 9, BAD, (x, a) -> x.beside(a, 0));
        Refused.outside("b of none", Worlds::empty, 0, -1, BAD, (x, b) -> x.beside(0, b));
    }
}
