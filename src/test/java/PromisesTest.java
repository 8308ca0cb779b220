/** Each promise of the document by hand: ordinary inputs, the edges it names, refusals in their order. */
public final class PromisesTest {
    private static final int BAD = -2, NOT = -3, FULL = -4, NONE = -1;
    private static final int NULL = -11, INDEX = -12, CAST = -13, STORE = -14, SIZE = -15;
    private static final int LEAST = Integer.MIN_VALUE;

    private PromisesTest() {
    }

    public static void main(String[] args) {
        newObject();
        questions();
        type();
        wipe();
        fault();
        key();
        set();
        asOf();
        pupil();
        answer();
        read();
        said();
        beside();
        mark();
        passing();
        shared();
        chance();
        odd();
        seats();
        howLikely();
        sources();
        from();
        chain();
        rubbed();
        gains();
        known();
        lead();
        rest();
        should();
        badly();
        without();
        hard();
        parts();
        sheet();
        lose();
        put();
        get();
        copy();
        write();
        count();
        digest();
        refusalsChangeNothing();
        noCallThrows();
        Check.end();
    }

    private static void due(String call, long got, long want) {
        Check.due(call, got, want);
    }

    // ---- the test

    private static void newObject() {
        SameWrong x = new SameWrong();
        due("new: count(0)", x.count(0), 10);
        for (int what = 1; what <= 8; what++) {
            due("new: count(" + what + ")", x.count(what), 0);
        }
        due("new: fault", x.fault(), 0);
        due("new: key(9)", x.key(9), 0);
        due("new: said", x.said(0, 0), BAD);
        for (int s = 0; s < 4; s++) {
            due("new: lose(" + s + ")", x.lose(s), NULL);
        }
        due("new: AS OF", x.set(0, 0), 999);
        due("new: PASS", x.set(1, 0), 50);
        due("new: LIMIT", x.set(2, 0), 50);
    }

    private static void questions() {
        SameWrong x = new SameWrong();
        due("questions(12)", x.questions(12), 10);
        due("questions(1)", x.questions(1), 12);
        due("questions(0)", x.questions(0), BAD);
        due("questions(13)", x.questions(13), BAD);
        for (int odd : Check.ODD_INTS) {
            due("questions(" + odd + ")", x.questions(odd), BAD);
        }
        due("questions: refusals change nothing", x.count(0), 1);
        due("questions: key(1) is none", x.key(1), BAD);
        x = Check.test("11");
        Check.sits(x, 0, 0, "12");
        due("questions: less", x.questions(1), 2);
        due("questions: said of another", x.said(0, 1), BAD);
        due("questions: answers of others don't count", x.count(4), 1);
        due("questions: tellings stay", x.count(3), 2);
        due("questions: more again", x.questions(2), 1);
        due("questions: what was told is kept", x.said(0, 1), 2);
        due("questions: mark is back", x.mark(0, 0), 1);
    }

    private static void type() {
        SameWrong x = new SameWrong();
        due("type(256)", x.type(256), BAD);
        due("type(-1)", x.type(-1), BAD);
        due("type(0)", x.type(0), 1);
        due("type(255)", x.type(255), 2);
        for (int i = 3; i <= 12; i++) {
            due("type " + i, x.type('1'), i);
        }
        due("type: BAD ahead of FULL", x.type(256), BAD);
        due("type: FULL", x.type('1'), FULL);
        due("type: wipe after FULL", x.wipe(), 12);
    }

    private static void wipe() {
        SameWrong x = Check.test("123");
        due("wipe()", x.wipe(), 3);
        due("wipe() again", x.wipe(), 0);
        due("wipe: fault", x.fault(), 0);
        due("wipe: key", x.key(0), 0);
        due("wipe: questions stay", x.count(0), 3);
        Check.type(x, "4?5");
        due("wipe: a new one", x.key(0), 4);
    }

    private static void fault() {
        SameWrong x = Check.test("15?");
        due("fault: none", x.fault(), NONE);
        x.type('1');
        due("fault: behind the last question", x.fault(), 3);
        x.questions(4);
        due("fault: questions make it good", x.fault(), NONE);
        x.questions(12);
        due("fault: its end", x.fault(), 4);
        for (int b : new int[] {0, '0', '6', '1' + 128, ' ', 255, '>', '@'}) {
            x = new SameWrong();
            x.questions(3);
            x.type('1');
            x.type(b);
            due("fault: byte " + b, x.fault(), 1);
            x.type('1');
            due("fault: byte " + b + ", longer", x.fault(), 1);
            x.questions(1);
            due("fault: byte " + b + " behind the last", x.fault(), 1);
        }
    }

    private static void key() {
        SameWrong x = Check.test("12345?");
        for (int q = 0; q < 6; q++) {
            due("key(" + q + ")", x.key(q), q == 5 ? 0 : q + 1);
        }
        due("key(6)", x.key(6), BAD);
        due("key(-1)", x.key(-1), BAD);
        due("key: not struck", x.count(1), 5);
        x.type('1');
        for (int q = 0; q < 6; q++) {
            due("key(" + q + ") with a fault", x.key(q), 0);
        }
        due("key: all are struck", x.count(1), 0);
    }

    private static void set() {
        SameWrong x = new SameWrong();
        int[] first = {999, 50, 50}, most = {999, 100, 1000};
        for (int what = 0; what < 3; what++) {
            due("set(" + what + ", 0)", x.set(what, 0), first[what]);
            due("set(" + what + ", most)", x.set(what, most[what]), 0);
            due("set(" + what + ", above)", x.set(what, most[what] + 1), -5);
            due("set(" + what + ", -1)", x.set(what, -1), -5);
            due("set(" + what + ", 7)", x.set(what, 7), most[what]);
        }
        due("set(3, 0)", x.set(3, 0), -5);
        due("set(-1, 0)", x.set(-1, 0), -5);
    }

    private static void asOf() {
        SameWrong x = Check.test("11");
        x.pupil(0, 0);
        x.answer(0, 0, 2, 5);
        x.answer(0, 0, 1, 7);
        x.answer(0, 1, 1, 7);
        x.answer(0, 1, 0, 8);
        int[][] rows = {{4, 0, 0, 0}, {5, 2, 0, 0}, {6, 2, 0, 0}, {7, 1, 1, 1}, {8, 1, 0, 2}, {999, 1, 0, 2}};
        for (int[] row : rows) {
            x.set(0, row[0]);
            due("as of " + row[0] + ": said(0, 0)", x.said(0, 0), row[1]);
            due("as of " + row[0] + ": said(0, 1)", x.said(0, 1), row[2]);
            due("as of " + row[0] + ": rubbed", x.rubbed(0, 0), row[3]);
        }
        x.set(0, 8);
        due("as of: told later", x.answer(0, 0, 3, 9), 5);
        due("as of: is not so", x.said(0, 0), 1);
        due("as of: tellings are all", x.count(3), 5);
        due("as of: rubbed later does not count", x.count(7), 2);
        x.set(0, 9);
        due("as of: now it is", x.said(0, 0), 3);
        due("as of: now it counts", x.count(7), 3);
        due("as of: told at once", x.answer(0, 0, 4, 9), 6);
        due("as of: is so at once", x.said(0, 0), 4);
    }

    // ---- pupils, answers

    private static void pupil() {
        SameWrong x = new SameWrong();
        due("pupil(4, 0)", x.pupil(4, 0), BAD);
        due("pupil(0, 5)", x.pupil(0, 5), BAD);
        due("pupil(-1, 0)", x.pupil(-1, 0), BAD);
        due("pupil(0, -1)", x.pupil(0, -1), BAD);
        for (int i = 0; i < 10; i++) {
            due("pupil " + i, x.pupil(3 - i / 5, 4 - i % 5), i);
            due("pupil: taken " + i, x.pupil(3 - i / 5, 4 - i % 5), BAD);
        }
        due("pupil: FULL", x.pupil(0, 0), FULL);
        due("pupil: taken ahead of FULL", x.pupil(3, 4), BAD);
        due("pupil: BAD ahead of FULL", x.pupil(4, 4), BAD);
        due("pupil: ten", x.count(2), 10);
    }

    private static void answer() {
        SameWrong x = Check.test("11");
        due("answer: no pupil", x.answer(0, 0, 1, 0), BAD);
        x.pupil(0, 0);
        due("answer: first", x.answer(0, 0, 5, 0), 1);
        due("answer: 0", x.answer(0, 1, 0, 3), 2);
        due("answer: time less", x.answer(0, 0, 1, 2), BAD);
        due("answer: question 2", x.answer(0, 2, 1, 3), BAD);
        due("answer: question -1", x.answer(0, -1, 1, 3), BAD);
        due("answer: 6", x.answer(0, 0, 6, 3), BAD);
        due("answer: -1", x.answer(0, 0, -1, 3), BAD);
        due("answer: pupil -1", x.answer(-1, 0, 1, 3), BAD);
        due("answer: pupil 1", x.answer(1, 0, 1, 3), BAD);
        due("answer: time 1000", x.answer(0, 0, 1, 1000), BAD);
        due("answer: time -1", x.answer(0, 0, 1, -1), BAD);
        x.pupil(0, 1);
        due("answer: time less than another's", x.answer(1, 0, 1, 2), BAD);
        for (int i = 3; i <= 150; i++) {
            due("answer: the same time", x.answer(0, 0, i % 6, 3), i);
        }
        due("answer: BAD ahead of FULL", x.answer(0, 0, 6, 3), BAD);
        due("answer: FULL", x.answer(0, 0, 1, 999), FULL);
        due("answer: time as before", x.answer(0, 0, 1, 3), FULL);
        due("answer: last is so", x.said(0, 0), 0);
        x = new SameWrong();
        x.pupil(0, 0);
        due("answer: time -1 at first", x.answer(0, 0, 1, -1), BAD);
        due("answer: time 999", x.answer(0, 0, 1, 999), 1);
    }

    private static void read() {
        SameWrong x = Check.test("1111");
        x.pupil(0, 0);
        due("read: NULL", x.read(0, 0, 0), NULL);
        due("read: finding", x.count(8), 1);
        due("read: sheet 4", x.read(4, 0, 0), BAD);
        due("read: sheet -1", x.read(-1, 0, 0), BAD);
        due("read: BAD ahead of NULL, pupil", x.read(0, 1, 0), BAD);
        due("read: BAD ahead of NULL, time", x.read(0, 0, 1000), BAD);
        x.sheet(0, 1, 6);
        for (int i = 0; i < 6; i++) {
            x.put(0, 1, i, i);
        }
        due("read: as many as questions", x.read(0, 0, 5), 4);
        due("read: said 3", x.said(0, 3), 3);
        due("read: time less", x.read(0, 0, 4), BAD);
        due("read: tellings", x.count(3), 4);
        x.put(0, 1, 1, 6);
        due("read: up to one refused", x.read(0, 0, 5), 1);
        x.put(0, 1, 0, -1);
        due("read: none taken", x.read(0, 0, 5), 0);
        x.sheet(0, 0, 0);
        due("read: no items", x.read(0, 0, 5), 0);
        due("read: nothing told", x.count(3), 5);
        for (int i = 6; i <= 148; i++) {
            due("read: answer " + i, x.answer(0, 0, 1, 5), i);
        }
        x.sheet(1, 2, 4);
        due("read: up to FULL", x.read(1, 0, 6), 2);
        due("read: FULL at once", x.read(1, 0, 6), 0);
        due("read: still", x.count(3), 150);
    }

    private static void said() {
        SameWrong x = Check.test("11");
        Check.sits(x, 0, 0, "35");
        due("said(0, 0)", x.said(0, 0), 3);
        due("said(0, 1)", x.said(0, 1), 5);
        x.answer(0, 1, 0, 0);
        due("said: taken back", x.said(0, 1), 0);
        due("said(0, 2)", x.said(0, 2), BAD);
        due("said(0, -1)", x.said(0, -1), BAD);
        due("said(1, 0)", x.said(1, 0), BAD);
        due("said(-1, 0)", x.said(-1, 0), BAD);
    }

    private static void beside() {
        SameWrong x = new SameWrong();
        int[][] seats = {{1, 2}, {0, 1}, {2, 3}, {1, 4}, {3, 2}, {1, 1}, {3, 3}, {1, 0}};
        for (int[] seat : seats) {
            x.pupil(seat[0], seat[1]);
        }
        int[] near = {0, 1, 1, 0, 0, 1, 0, 0};
        for (int p = 1; p < near.length; p++) {
            due("beside(0, " + p + ")", x.beside(0, p), near[p]);
            due("beside(" + p + ", 0)", x.beside(p, 0), near[p]);
        }
        due("beside(0, 0)", x.beside(0, 0), BAD);
        due("beside(0, 8)", x.beside(0, 8), BAD);
        due("beside(-1, 0)", x.beside(-1, 0), BAD);
    }

    // ---- marks

    private static void mark() {
        SameWrong x = Check.test("123?5");
        Check.sits(x, 0, 0, "12345");
        Check.sits(x, 1, 1, "11145");
        Check.sits(x, 2, 2, "02301");
        Check.sits(x, 3, 3, "00000");
        int[][] want = {{4, 1, 1, 0}, {2, 2, 1, 2}, {2, 2, 1, 1}, {0, 4, 0, 0}};
        for (int p = 0; p < 4; p++) {
            for (int what = 0; what < 4; what++) {
                due("mark(" + p + ", " + what + ")", x.mark(p, what), want[p][what]);
            }
        }
        due("mark: all", x.count(5), 8);
        due("mark(0, 4)", x.mark(0, 4), BAD);
        due("mark(0, -1)", x.mark(0, -1), BAD);
        due("mark(4, 0)", x.mark(4, 0), BAD);
        due("mark(-1, 0)", x.mark(-1, 0), BAD);
        x.type('1');
        due("mark with a fault", x.mark(0, 0), 0);
        due("rank with a fault", x.mark(3, 1), 1);
        due("passes with a fault", x.mark(3, 2), 1);
        due("wrong with a fault", x.mark(1, 3), 0);
    }

    private static void passing() {
        SameWrong x = Check.test("111?");
        Check.sits(x, 0, 0, "1001");
        x.set(1, 33);
        due("passes: 1 of 3 by 33", x.mark(0, 2), 1);
        x.set(1, 34);
        due("passes: 1 of 3 by 34", x.mark(0, 2), 0);
        x.set(1, 100);
        Check.tells(x, 0, "111", 0);
        due("passes: all by 100", x.mark(0, 2), 1);
        x.set(1, 0);
        Check.tells(x, 0, "000", 0);
        due("passes: none by 0", x.mark(0, 2), 1);
    }

    private static void shared() {
        SameWrong x = Check.test("11111?");
        Check.sits(x, 0, 0, "223012");
        Check.sits(x, 3, 4, "232022");
        // question 0 alike; 1, 2 both wrong; 3 none; 4 one right; 5 struck
        due("shared", x.shared(0, 1, 0), 1);
        due("both", x.shared(0, 1, 1), 3);
        due("shared the other way", x.shared(1, 0, 0), 1);
        due("odd", x.shared(0, 1, 2), 0);
        due("shared(0, 1, 3)", x.shared(0, 1, 3), BAD);
        due("shared(0, 1, -1)", x.shared(0, 1, -1), BAD);
        due("shared(0, 0, 0)", x.shared(0, 0, 0), BAD);
        due("shared(0, 2, 0)", x.shared(0, 2, 0), BAD);
        due("shared(-1, 0, 0)", x.shared(-1, 0, 0), BAD);
    }

    private static void chance() {
        SameWrong x = Check.test("1111");
        Check.sits(x, 0, 0, "2200");
        Check.sits(x, 0, 1, "2300");
        // by no others 1 of 4 each: at least 1 of 2 is 1 - 9/16
        Check.fraction("chance, two", x.chance(0, 1, 0), x.chance(0, 1, 1), 7, 16);
        Check.sits(x, 3, 3, "2400");
        Check.sits(x, 3, 4, "2100");
        // question 0: (9 + 1 + 1 + 1) of 36 is 1/3; question 1: (4 + 1 + 1 + 1) of 25: 1 - 2/3 18/25
        Check.fraction("chance, four", x.chance(0, 1, 0), x.chance(0, 1, 1), 13, 25);
        Check.fraction("chance, the other way", x.chance(1, 0, 0), x.chance(1, 0, 1), 13, 25);
        Check.tells(x, 1, "22", 0);
        Check.fraction("chance, both alike", x.chance(0, 1, 0), x.chance(0, 1, 1), 7, 75);
        Check.tells(x, 1, "33", 0);
        Check.fraction("chance, none alike", x.chance(0, 1, 0), x.chance(0, 1, 1), 1, 1);
        Check.tells(x, 1, "11", 0);
        Check.fraction("chance, none both", x.chance(0, 1, 0), x.chance(0, 1, 1), 1, 1);
        due("chance what 2", x.chance(0, 1, 2), Check.BAD_LONG);
        due("chance what -1", x.chance(0, 1, -1), Check.BAD_LONG);
        due("chance no pupil", x.chance(0, 4, 0), Check.BAD_LONG);
        due("chance -1", x.chance(-1, 0, 0), Check.BAD_LONG);
        due("chance with oneself", x.chance(1, 1, 0), Check.BAD_LONG);
        x = Check.test("11111111");
        Check.sits(x, 0, 0, "22222222");
        Check.sits(x, 0, 1, "22222220");
        Check.fraction("chance, seven", x.chance(0, 1, 0), x.chance(0, 1, 1), 1, 16384);
        Check.tells(x, 1, "22222223", 0);
        due("chance, eight", x.chance(0, 1, 0), Check.FULL_LONG);
        due("chance, eight below", x.chance(0, 1, 1), Check.FULL_LONG);
        due("chance, BAD ahead of FULL", x.chance(0, 1, 2), Check.BAD_LONG);
        crowdedChance();
    }

    /** The greatest numbers below: 144 to the seventh. */
    private static void crowdedChance() {
        SameWrong x = Check.test("1111111");
        for (int p = 0; p < 10; p++) {
            Check.sits(x, p / 5, p % 5, p == 0 || p == 1 || p < 8 ? "2222222" : "3333333");
        }
        // of eight others six chose 2, two chose 3: (49 + 9 + 1 + 1) of 144 is 5/12
        Check.fraction("chance, crowd", x.chance(0, 1, 0), x.chance(0, 1, 1), 78125, 35831808);
        Check.tells(x, 1, "3", 0);
        // six or more of seven: 7 * 5^6 * 7 + 5^7 = 54 * 5^6 of 12^7
        Check.fraction("chance, crowd, six", x.chance(0, 1, 0), x.chance(0, 1, 1), 15625, 663552);
    }

    private static void odd() {
        SameWrong x = Check.test("11");
        Check.sits(x, 0, 0, "22");
        Check.sits(x, 3, 4, "22");
        // 1 of 16 is 62.5 thousandths
        due("odd by 50", x.shared(0, 1, 2), 0);
        x.set(2, 62);
        due("odd by 62", x.shared(0, 1, 2), 0);
        x.set(2, 63);
        due("odd by 63", x.shared(0, 1, 2), 1);
        due("odd pairs", x.count(6), 1);
        x.set(2, 0);
        due("odd by 0", x.shared(0, 1, 2), 0);
        Check.tells(x, 1, "20", 0);
        x.set(2, 250);
        due("odd: no more than it", x.shared(0, 1, 2), 1);
        x.set(2, 249);
        due("odd: more than it", x.shared(0, 1, 2), 0);
        Check.tells(x, 1, "33", 0);
        x.set(2, 1000);
        due("odd: nothing shared", x.shared(0, 1, 2), 0);
        x = Check.test("11111111");
        Check.sits(x, 0, 0, "22222222");
        Check.sits(x, 0, 1, "22222222");
        x.set(2, 1000);
        due("odd: FULL is not", x.shared(0, 1, 2), 0);
        due("odd: FULL is no pair", x.count(6), 0);
    }

    // ---- seats

    private static void seats() {
        SameWrong x = Check.test("111");
        due("seats(0) empty", x.seats(0), 0);
        due("seats(1) empty", x.seats(1), 1000000);
        Check.sits(x, 0, 0, "222");
        due("seats(1) one", x.seats(1), 1000000);
        Check.sits(x, 0, 1, "223");
        Check.sits(x, 0, 2, "323");
        // 0 and 1 share 2; 1 and 2 share 2; 0 and 2 share 1 but are no neighbours
        due("seats(0)", x.seats(0), 4);
        due("seats(2)", x.seats(2), BAD);
        due("seats(-1)", x.seats(-1), BAD);
        // 1 in the middle: 2 of 6 orders
        due("seats(1)", x.seats(1), 333333);
    }

    private static void howLikely() {
        SameWrong x = Check.test("111");
        Check.sits(x, 0, 0, "222");
        Check.sits(x, 0, 1, "222");
        Check.sits(x, 0, 3, "333");
        Check.sits(x, 2, 3, "444");
        Check.sits(x, 2, 0, "555");
        // only seats 0 and 1 are near: two pupils there in 2 of 20 ways
        due("how likely, five", x.seats(1), 100000);
        Check.sits(x, 2, 4, "111");
        Check.sits(x, 3, 4, "000");
        // pairs of near seats: 0-1 and the three among 3, 5, 6: 4 of 21 pairs of seats
        due("how likely, seven", x.seats(1), 190476);
        Check.tells(x, 1, "111", 0);
        due("how likely, nothing beside", x.seats(1), 1000000);
        x.pupil(3, 0);
        due("how likely, eight", x.seats(1), FULL);
        due("beside, eight", x.seats(0), 0);
        due("seats(2), eight", x.seats(2), BAD);
    }

    private static void sources() {
        SameWrong x = Check.test("111");
        due("sources: none there", x.sources(), 0);
        x.set(2, 1000);
        // a row of five, each wrong in what the next one is wrong in
        Check.sits(x, 0, 0, "200");
        Check.sits(x, 0, 1, "230");
        Check.sits(x, 0, 2, "034");
        Check.sits(x, 0, 3, "204");
        // links 0-1, 1-2, 2-3: of 0 and 2, 1 and 2, 1 and 3 the least
        due("sources: three links", x.sources(), 0b0101);
        Check.sits(x, 0, 4, "200");
        // links 0-1, 1-2, 2-3, 3-4: two are enough, 1 and 3
        due("sources: four links", x.sources(), 0b01010);
        Check.sits(x, 3, 4, "234");
        due("sources: far ones are not linked", x.sources(), 0b01010);
        x.set(2, 0);
        due("sources: nothing odd", x.sources(), 0);
        x = Check.test("1");
        x.set(2, 1000);
        Check.sits(x, 0, 0, "2");
        Check.sits(x, 0, 1, "2");
        due("sources: of two the least", x.sources(), 1);
        Check.sits(x, 1, 1, "2");
        due("sources: of three two, the least", x.sources(), 3);
    }

    private static void from() {
        SameWrong x = Check.test("1111");
        x.set(2, 1000);
        Check.sits(x, 0, 0, "2110");
        Check.sits(x, 0, 1, "2100");
        Check.sits(x, 0, 3, "2111");
        Check.sits(x, 1, 1, "1100");
        due("from: the greater mark", x.from(0, 1), 0);
        due("from: the other way", x.from(1, 0), 0);
        due("from: odd, not near", x.from(0, 2), NOT);
        due("from: near, not odd", x.from(0, 3), NOT);
        due("from: with oneself", x.from(0, 0), BAD);
        due("from: no pupil", x.from(0, 4), BAD);
        due("from: -1", x.from(-1, 0), BAD);
        x.answer(1, 2, 1, 1);
        due("from: of like ones none", x.from(0, 1), NONE);
        x.answer(0, 3, 3, 2);
        x.answer(0, 3, 0, 3);
        due("from: less rubbed out", x.from(0, 1), 1);
        due("from: less rubbed out, the other way", x.from(1, 0), 1);
        x.set(0, 2);
        due("from: as of before", x.from(1, 0), NONE);
        x.set(0, 999);
        x.answer(0, 3, 1, 4);
        due("from: mark ahead of rubbed", x.from(0, 1), 0);
        x.set(2, 0);
        due("from: not odd", x.from(0, 1), NOT);
    }

    private static void chain() {
        SameWrong x = Check.test("11111");
        x.set(2, 1000);
        due("chain: empty", x.chain(), 0);
        Check.sits(x, 0, 3, "20000");
        due("chain: one", x.chain(), 1);
        Check.sits(x, 0, 2, "21000");
        Check.sits(x, 0, 1, "21100");
        Check.sits(x, 0, 0, "21110");
        due("chain: against the numbers", x.chain(), 4);
        Check.sits(x, 1, 3, "20000");
        due("chain: like ones don't give", x.chain(), 4);
        x.answer(4, 1, 3, 1);
        x.answer(4, 1, 0, 2);
        due("chain: less rubbed out gives", x.chain(), 5);
        x.answer(2, 0, 1, 3);
        due("chain: broken", x.chain(), 3);
        x.set(2, 0);
        due("chain: nothing odd", x.chain(), 1);
    }

    // ---- rubbed out, known

    private static void rubbed() {
        SameWrong x = Check.test("111?");
        x.pupil(0, 0);
        x.pupil(0, 1);
        int[][] told = {{0, 2}, {0, 1}, {0, 1}, {0, 3}, {1, 1}, {1, 0}, {1, 2}, {2, 2}, {2, 3}, {2, 0}, {2, 1},
            {3, 1}, {3, 2}};
        for (int[] t : told) {
            x.answer(0, t[0], t[1], 1);
        }
        // 0: 2-1, 1-3; 1: 1-0; 2: 2-3, 3-0; 3: 1-2
        due("rubbed", x.rubbed(0, 0), 6);
        due("to right from wrong", x.rubbed(0, 1), 1);
        due("to wrong from right", x.rubbed(0, 2), 1);
        due("rubbed by another", x.rubbed(1, 0), 0);
        due("rubbed in all", x.count(7), 6);
        x.questions(3);
        due("rubbed: a question that there is", x.rubbed(0, 0), 5);
        due("rubbed in all, questions that there are", x.count(7), 5);
        due("rubbed with a fault", x.rubbed(0, 1), 0);
        x.wipe();
        Check.type(x, "333");
        due("rubbed: by the key as it is", x.rubbed(0, 1), 2);
        due("rubbed: by the key as it is, back", x.rubbed(0, 2), 0);
        due("rubbed(0, 3)", x.rubbed(0, 3), BAD);
        due("rubbed(0, -1)", x.rubbed(0, -1), BAD);
        due("rubbed(2, 0)", x.rubbed(2, 0), BAD);
        due("rubbed(-1, 0)", x.rubbed(-1, 0), BAD);
    }

    private static void gains() {
        SameWrong x = Check.test("1111111111");
        x.pupil(0, 0);
        x.pupil(0, 1);
        due("gains(1024, 0)", x.gains(1024, 0), Check.BAD_LONG);
        due("gains(-1, 0)", x.gains(-1, 0), Check.BAD_LONG);
        due("gains(0, 2)", x.gains(0, 2), Check.BAD_LONG);
        due("gains(0, -1)", x.gains(0, -1), Check.BAD_LONG);
        Check.fraction("gains: nothing", x.gains(1023, 0), x.gains(1023, 1), 1, 1);
        Check.tells(x, 0, "2222", 0);
        Check.tells(x, 0, "1113", 0);
        Check.tells(x, 1, "222222", 0);
        Check.tells(x, 1, "133333", 0);
        // ten in all, four gained; 0 had four with three gains: (4 * 6 + 1) of 210
        Check.fraction("gains(1)", x.gains(1, 0), x.gains(1, 1), 5, 42);
        // 1 had six with one gain: all but the draws without any: 1 - 1/210
        Check.fraction("gains(2)", x.gains(2, 0), x.gains(2, 1), 209, 210);
        Check.fraction("gains(3)", x.gains(3, 0), x.gains(3, 1), 1, 1);
        Check.fraction("gains(1023)", x.gains(1023, 0), x.gains(1023, 1), 1, 1);
        Check.fraction("gains(1021)", x.gains(1021, 0), x.gains(1021, 1), 5, 42);
        Check.fraction("gains(4): not there", x.gains(4, 0), x.gains(4, 1), 1, 1);
        greatGains();
    }

    /** Sixty in all, thirty each: the greatest numbers; one more is too many. */
    private static void greatGains() {
        SameWrong x = Check.test("1");
        x.pupil(0, 0);
        x.pupil(0, 1);
        for (int i = 0; i <= 30; i++) {
            x.answer(0, 0, i == 0 ? 2 : 3 - x.said(0, 0), 0);
            x.answer(1, 0, i % 2 == 0 ? 3 : 2, 0);
        }
        // 0 went 2, 1, 2 ..: fifteen gains, 1 none: all 15 of 60 among 30 drawn: (45 over 15) by (60 over 30)
        due("gains: sixty", x.count(7), 60);
        Check.fraction("gains: sixty", x.gains(1, 0), x.gains(1, 1), 3, 1028783);
        Check.fraction("gains: sixty, others", x.gains(2, 0), x.gains(2, 1), 1, 1);
        x.answer(1, 0, 5, 1);
        due("gains: sixty-one", x.gains(1, 0), Check.FULL_LONG);
        due("gains: sixty-one, below", x.gains(0, 1), Check.FULL_LONG);
        due("gains: BAD ahead of FULL", x.gains(1024, 0), Check.BAD_LONG);
        x.set(0, 0);
        due("gains: sixty as of before", x.gains(1, 0), 3);
    }

    private static void known() {
        SameWrong x = Check.test("1111?");
        due("known: none there", x.known(1, 0), BAD);
        Check.sits(x, 0, 0, "11101");
        Check.sits(x, 0, 1, "11011");
        Check.sits(x, 0, 2, "01001");
        Check.sits(x, 0, 3, "02001");
        due("known(3, 0)", x.known(3, 0), 0b0001);
        due("known(3, 49)", x.known(3, 49), 0b0001);
        due("known(3, 50)", x.known(3, 50), 0b0011);
        due("known(1, 0)", x.known(1, 0), 0b0100);
        due("known(1, 33)", x.known(1, 33), 0b0100);
        due("known(1, 34)", x.known(1, 34), 0b0101);
        due("known(1, 100)", x.known(1, 100), 0b0111);
        due("known(8, 100)", x.known(8, 100), 0);
        due("known(15, 0): no others", x.known(15, 0), 0);
        due("known(1017, 34): others are not there", x.known(1017, 100), 0);
        due("known(1009, 34): only 0 is there", x.known(1009, 34), 0b0101);
        due("known(16, 0): not there", x.known(16, 0), BAD);
        due("known(0, 0)", x.known(0, 0), BAD);
        due("known(1024, 0)", x.known(1024, 0), BAD);
        due("known(1025, 0)", x.known(1025, 0), BAD);
        due("known(-1, 0)", x.known(-1, 0), BAD);
        due("known(1, 101)", x.known(1, 101), BAD);
        due("known(1, -1)", x.known(1, -1), BAD);
        SameWrong y = Check.test("11");
        Check.sits(y, 0, 0, "10");
        due("known: no others", y.known(1, 0), 1);
    }

    private static void lead() {
        SameWrong x = Check.test("11?");
        for (int p = 0; p < 5; p++) {
            Check.sits(x, 0, p, p == 0 ? "101" : p == 1 ? "111" : p == 2 ? "111" : "201");
        }
        // question 0: right are 0, 1, 2; question 1: 1, 2
        Check.fraction("lead(0, 1)", x.lead(0, 1, 0), x.lead(0, 1, 1), 1, 2);
        Check.fraction("lead(0, 24)", x.lead(0, 24, 0), x.lead(0, 24, 1), -1, 1);
        Check.fraction("lead(1, 3)", x.lead(1, 3, 0), x.lead(1, 3, 1), 1, 6);
        Check.fraction("lead(1, 25)", x.lead(1, 25, 0), x.lead(1, 25, 1), -1, 1);
        Check.fraction("lead(1, 28)", x.lead(1, 28, 0), x.lead(1, 28, 1), -1, 6);
        Check.fraction("lead(1, 995)", x.lead(1, 995, 0), x.lead(1, 995, 1), 1, 6);
        Check.tells(x, 4, "11", 0);
        Check.tells(x, 3, "11", 0);
        Check.fraction("lead: 0 by 1", x.lead(0, 7, 0), x.lead(0, 7, 1), 0, 1);
        due("lead: struck", x.lead(2, 1, 0), Check.NOT_LONG);
        due("lead: none", x.lead(0, 0, 0), Check.NOT_LONG);
        due("lead: not there", x.lead(0, 32, 0), Check.NOT_LONG);
        due("lead: no others", x.lead(0, 31, 1), Check.NOT_LONG);
        due("lead(3, 1, 0)", x.lead(3, 1, 0), Check.BAD_LONG);
        due("lead(-1, 1, 0)", x.lead(-1, 1, 0), Check.BAD_LONG);
        due("lead(0, 1024, 0)", x.lead(0, 1024, 0), Check.BAD_LONG);
        due("lead(0, -1, 0)", x.lead(0, -1, 0), Check.BAD_LONG);
        due("lead: BAD ahead of NOT", x.lead(2, 1, 2), Check.BAD_LONG);
        due("lead(0, 1, -1)", x.lead(0, 1, -1), Check.BAD_LONG);
    }

    // ---- questions

    private static SameWrong fiveForRests() {
        SameWrong x = Check.test("1111?");
        Check.sits(x, 0, 0, "11112");
        Check.sits(x, 0, 1, "21112");
        Check.sits(x, 0, 2, "21103");
        Check.sits(x, 0, 3, "11003");
        Check.sits(x, 0, 4, "30000");
        return x;
    }

    private static void rest() {
        SameWrong x = fiveForRests();
        // rests to question 0: 3, 3, 2, 1, 0
        Check.fraction("rest(0, 1)", x.rest(0, 1, 0), x.rest(0, 1, 1), 2, 1);
        Check.fraction("rest(0, 2)", x.rest(0, 2, 0), x.rest(0, 2, 1), 5, 2);
        Check.fraction("rest(0, 3)", x.rest(0, 3, 0), x.rest(0, 3, 1), 0, 1);
        due("rest(0, 4)", x.rest(0, 4, 0), Check.NOT_LONG);
        // struck: the whole marks 4, 3, 2, 2, 0
        Check.fraction("rest(4, 2)", x.rest(4, 2, 0), x.rest(4, 2, 1), 7, 2);
        Check.fraction("rest(4, 3)", x.rest(4, 3, 0), x.rest(4, 3, 1), 2, 1);
        due("rest(0, 0, 0)", x.rest(0, 0, 0), Check.BAD_LONG);
        due("rest(0, 6, 0)", x.rest(0, 6, 0), Check.BAD_LONG);
        due("rest(5, 1, 0)", x.rest(5, 1, 0), Check.BAD_LONG);
        due("rest(-1, 1, 0)", x.rest(-1, 1, 0), Check.BAD_LONG);
        due("rest: BAD ahead of NOT", x.rest(0, 4, 2), Check.BAD_LONG);
        due("rest(0, 1, -1)", x.rest(0, 1, -1), Check.BAD_LONG);
    }

    private static void should() {
        SameWrong x = fiveForRests();
        due("should(0)", x.should(0), 2);
        due("should(1)", x.should(1), 1);
        due("should: struck", x.should(4), 2);
        due("should(5)", x.should(5), BAD);
        due("should(-1)", x.should(-1), BAD);
        x = Check.test("11");
        due("should: no pupils", x.should(0), NONE);
        Check.sits(x, 0, 0, "01");
        due("should: none chose", x.should(0), NONE);
        Check.sits(x, 0, 1, "50");
        due("should: one chose, rest 0", x.should(0), 5);
        Check.sits(x, 0, 2, "40");
        due("should: of like ones the least", x.should(0), 4);
        Check.sits(x, 0, 3, "50");
        due("should: of like ones more chose", x.should(0), 5);
        Check.sits(x, 0, 4, "41");
        due("should: the mean, not how many", x.should(0), 4);
        Check.sits(x, 1, 0, "31");
        due("should: the mean, not the sum", x.should(0), 3);
    }

    private static void badly() {
        SameWrong x = fiveForRests();
        due("badly", x.badly(), 1);
        x.wipe();
        Check.type(x, "?111?");
        due("badly: struck", x.badly(), 0);
        x.wipe();
        Check.type(x, "5555?");
        // all rests are 0: more chose 1 at 1, 2, 3; at 0 both 1 and 2 have two, the least
        due("badly: all", x.badly(), 0b01111);
        x.type('1');
        due("badly: fault", x.badly(), 0);
        due("badly: none chose", Check.test("123").badly(), 0);
    }

    private static void without() {
        SameWrong x = Check.test("111?");
        Check.sits(x, 0, 0, "1101");
        Check.sits(x, 0, 1, "1000");
        Check.sits(x, 0, 2, "0110");
        // marks 2, 1, 2, ranks 1, 3, 1; without 0: 1, 0, 2, ranks 2, 3, 1
        due("without(0, 0)", x.without(0, 0), 1);
        // without 1: 1, 1, 1, ranks 1, 1, 1
        due("without(1, 0)", x.without(1, 0), 1);
        // without 2: 2, 1, 1, ranks 1, 2, 2
        due("without(2, 0)", x.without(2, 0), 2);
        due("without(3, 0): struck", x.without(3, 0), 0);
        // by 50 pass 1, 0, 1 (of three); without 0: of two 1, 0, 1; without 1: 1, 1, 1
        due("without(0, 1)", x.without(0, 1), 0);
        due("without(1, 1)", x.without(1, 1), 1);
        due("without(3, 1): struck", x.without(3, 1), 0);
        x.set(1, 60);
        // by 60 pass 1, 0, 1; without 1: none
        due("without(1, 1) by 60", x.without(1, 1), 2);
        due("without(0, 2)", x.without(0, 2), BAD);
        due("without(0, -1)", x.without(0, -1), BAD);
        due("without(4, 0)", x.without(4, 0), BAD);
        due("without(-1, 0)", x.without(-1, 0), BAD);
        x = Check.test("1");
        Check.sits(x, 0, 0, "2");
        due("without the only one: all pass", x.without(0, 1), 1);
        due("without the only one: ranks", x.without(0, 0), 0);
    }

    private static void hard() {
        SameWrong x = Check.test("11?");
        due("hard: no pupils", x.hard(0, 0), Check.NOT_LONG);
        for (int p = 0; p < 4; p++) {
            Check.sits(x, 0, p, p < 2 ? "121" : "021");
        }
        Check.fraction("hard(0)", x.hard(0, 0), x.hard(0, 1), 1, 2);
        Check.fraction("hard(1)", x.hard(1, 0), x.hard(1, 1), 0, 1);
        due("hard: struck", x.hard(2, 0), Check.NOT_LONG);
        due("hard: BAD ahead of NOT", x.hard(2, 2), Check.BAD_LONG);
        due("hard(0, -1)", x.hard(0, -1), Check.BAD_LONG);
        due("hard(3, 0)", x.hard(3, 0), Check.BAD_LONG);
        due("hard(-1, 0)", x.hard(-1, 0), Check.BAD_LONG);
    }

    private static void parts() {
        SameWrong x = Check.test("1111?");
        due("parts: none", x.parts(0, 0), Check.NOT_LONG);
        Check.sits(x, 0, 0, "10000");
        due("parts: one", x.parts(0, 0), Check.NOT_LONG);
        Check.sits(x, 0, 1, "01001");
        Check.fraction("parts: two", x.parts(0, 0), x.parts(0, 1), -1, 1);
        // by question 1 both rests: 1, 0
        Check.fraction("parts: two, 1", x.parts(1, 0), x.parts(1, 1), -1, 1);
        Check.fraction("parts: like ones, lesser first", x.parts(2, 0), x.parts(2, 1), 0, 1);
        Check.tells(x, 1, "1000", 0);
        Check.tells(x, 0, "0000", 0);
        Check.fraction("parts: of like ones the last is worse", x.parts(0, 0), x.parts(0, 1), -1, 1);
        Check.tells(x, 0, "1000", 0);
        Check.sits(x, 0, 2, "01110");
        Check.sits(x, 0, 3, "11000");
        Check.sits(x, 0, 4, "01100");
        // rests to 0: 0, 0, 3, 1, 2: order 2, 4, 3, 0, 1: better 2, 4 have none, worse 0, 1 have both
        Check.fraction("parts: five, the middle left out", x.parts(0, 0), x.parts(0, 1), -1, 1);
        // rests to 1: 1, 1, 2, 1, 1: order 2, 0, 1, 3, 4: better 2; worse 3, 4
        Check.fraction("parts: five, 1", x.parts(1, 0), x.parts(1, 1), -1, 2);
        // rests to 3: 1, 1, 2, 2, 2: order 2, 3, 4, 0, 1
        Check.fraction("parts: five, 3", x.parts(3, 0), x.parts(3, 1), 1, 2);
        due("parts: struck", x.parts(4, 0), Check.NOT_LONG);
        due("parts: BAD ahead of NOT", x.parts(4, 2), Check.BAD_LONG);
        due("parts(0, -1)", x.parts(0, -1), Check.BAD_LONG);
        due("parts(5, 0)", x.parts(5, 0), Check.BAD_LONG);
        due("parts(-1, 0)", x.parts(-1, 0), Check.BAD_LONG);
    }

    // ---- sheets

    private static void sheet() {
        SameWrong x = new SameWrong();
        due("sheet(0, 0, 48)", x.sheet(0, 0, 48), 48);
        due("sheet(3, 2, 0)", x.sheet(3, 2, 0), 0);
        due("sheet(0, 0, 49)", x.sheet(0, 0, 49), BAD);
        due("sheet(4, 0, 1)", x.sheet(4, 0, 1), BAD);
        due("sheet(-1, 0, 1)", x.sheet(-1, 0, 1), BAD);
        due("sheet(0, 3, 1)", x.sheet(0, 3, 1), BAD);
        due("sheet(0, -1, 1)", x.sheet(0, -1, 1), BAD);
        due("sheet: no finding yet", x.count(8), 0);
        due("sheet: BAD ahead of SIZE", x.sheet(4, 0, -1), BAD);
        due("sheet: SIZE", x.sheet(0, 0, -1), SIZE);
        due("sheet: least", x.sheet(0, 0, LEAST), SIZE);
        due("sheet: finding", x.count(8), 5);
        x.put(0, 0, 47, 9);
        due("sheet: refused changes nothing", x.get(0, 0, 47), 9);
        due("sheet: anew", x.sheet(0, 0, 48), 48);
        due("sheet: 0 at first", x.get(0, 0, 47), 0);
    }

    private static void lose() {
        SameWrong x = new SameWrong();
        x.sheet(2, 1, 7);
        due("lose", x.lose(2), 7);
        due("lose again", x.lose(2), NULL);
        due("lose: finding", x.count(8), 1);
        due("lose(4)", x.lose(4), BAD);
        due("lose(-1)", x.lose(-1), BAD);
        due("lose: is lost", x.put(2, 1, 0, 0), NULL);
        x.sheet(2, 1, 0);
        due("lose: none items", x.lose(2), 0);
    }

    private static void put() {
        SameWrong x = new SameWrong();
        due("put: NULL", x.put(0, 0, 0, 0), NULL);
        due("put: NULL ahead of CAST and INDEX", x.put(0, 2, -1, 0), NULL);
        x.sheet(0, 0, 2);
        x.sheet(1, 1, 2);
        x.sheet(2, 2, 2);
        int[][] cut = {{128, -128, 128, 128}, {-129, 127, -129, -129}, {65535, -1, -1, 65535},
            {32768, 0, -32768, 32768}, {LEAST, 0, 0, LEAST}, {Integer.MAX_VALUE, -1, -1, Integer.MAX_VALUE}};
        for (int[] row : cut) {
            for (int form = 0; form < 3; form++) {
                due("put(" + form + ", " + row[0] + ")", x.put(form, form, 1, row[0]), 1);
                due("put: " + row[0] + " as of form " + form, x.get(form, form, 1), row[form + 1]);
            }
        }
        due("put: CAST ahead of INDEX", x.put(0, 1, 2, 0), CAST);
        due("put: finding 3", x.count(8), 3);
        due("put: INDEX", x.put(0, 0, 2, 0), INDEX);
        due("put: finding 2", x.count(8), 2);
        due("put: INDEX -1", x.put(0, 0, -1, 0), INDEX);
        due("put: sheet 4", x.put(4, 0, 0, 0), BAD);
        due("put: form 3", x.put(0, 3, 0, 0), BAD);
        due("put: BAD ahead of NULL", x.put(3, -1, 0, 0), BAD);
    }

    private static void get() {
        SameWrong x = new SameWrong();
        due("get: BAD", x.get(4, 0, 0), LEAST);
        due("get: BAD form", x.get(0, 3, 0), LEAST);
        due("get: BAD is no finding", x.count(8), 0);
        due("get: NULL", x.get(0, 0, 0), LEAST);
        due("get: finding 1", x.count(8), 1);
        x.sheet(0, 2, 1);
        due("get: 0 at first", x.get(0, 2, 0), 0);
        due("get: CAST ahead of INDEX", x.get(0, 0, 1), LEAST);
        due("get: finding 3", x.count(8), 3);
        due("get: INDEX", x.get(0, 2, 1), LEAST);
        due("get: finding 2", x.count(8), 2);
        due("get: INDEX -1", x.get(0, 2, -1), LEAST);
        due("get: BAD keeps the finding", x.get(-1, 2, 0), LEAST);
        due("get: still 2", x.count(8), 2);
    }

    private static void copy() {
        SameWrong x = new SameWrong();
        due("copy: NULL", x.copy(0, 0, 0, 0, 0), NULL);
        due("copy: BAD ahead of NULL", x.copy(0, 0, 4, 0, 0), BAD);
        due("copy: BAD -1", x.copy(-1, 0, 0, 0, 0), BAD);
        x.sheet(0, 0, 5);
        x.sheet(1, 0, 3);
        x.sheet(2, 1, 3);
        for (int i = 0; i < 5; i++) {
            x.put(0, 0, i, i + 1);
        }
        due("copy: NULL t", x.copy(0, 0, 3, 0, -1), NULL);
        due("copy: NULL s", x.copy(3, 0, 0, 0, -1), NULL);
        due("copy: STORE ahead of INDEX", x.copy(0, 9, 2, 0, 1), STORE);
        due("copy: finding 4", x.count(8), 4);
        due("copy: to another", x.copy(0, 2, 1, 0, 3), 1);
        due("copy: there", row(x, 1, 3), 345);
        due("copy: onward over itself", x.copy(0, 0, 0, 1, 4), 1);
        due("copy: as they were", row(x, 0, 5), 11234);
        due("copy: backward over itself", x.copy(0, 2, 0, 0, 3), 1);
        due("copy: as they were, back", row(x, 0, 5), 23434);
        int[][] none = {{-1, 0, 1}, {0, -1, 1}, {0, 0, -1}, {3, 0, 3}, {0, 1, 3}, {6, 0, 0}, {0, 4, 0},
            {Integer.MAX_VALUE, 0, 2}, {2, 0, Integer.MAX_VALUE}, {0, Integer.MAX_VALUE, Integer.MAX_VALUE}};
        for (int[] c : none) {
            due("copy: INDEX " + c[0] + ", " + c[1] + ", " + c[2], x.copy(0, c[0], 1, c[1], c[2]), INDEX);
        }
        due("copy: finding 2", x.count(8), 2);
        due("copy: nothing came", row(x, 1, 3), 345);
        due("copy: none from the ends", x.copy(0, 5, 1, 3, 0), 1);
    }

    private static long row(SameWrong x, int s, int size) {
        long figures = 0;
        for (int i = 0; i < size; i++) {
            figures = figures * 10 + x.get(s, 0, i);
        }
        return figures;
    }

    private static void write() {
        SameWrong x = Check.test("111");
        Check.sits(x, 0, 0, "524");
        due("write: NULL", x.write(0, 0), NULL);
        due("write: BAD ahead of NULL", x.write(1, 0), BAD);
        due("write: -1", x.write(-1, 0), BAD);
        due("write: sheet 4", x.write(0, 4), BAD);
        x.sheet(0, 0, 2);
        due("write: as many as items", x.write(0, 0), 2);
        due("write: there", row(x, 0, 2), 52);
        for (int form = 0; form < 3; form++) {
            x.sheet(1, form, 5);
            x.put(1, form, 3, 9);
            due("write: as many as questions", x.write(0, 1), 3);
            due("write: form " + form, x.get(1, form, 2), 4);
            due("write: no more, form " + form, x.get(1, form, 3), 9);
        }
        x.sheet(2, 2, 0);
        due("write: none", x.write(0, 2), 0);
        x.questions(1);
        due("write: one question", x.write(0, 1), 1);
        x.answer(0, 0, 1, 9);
        x.set(0, 8);
        x.write(0, 0);
        due("write: as of before", row(x, 0, 2), 52);
    }

    private static void count() {
        SameWrong x = Check.test("11?");
        x.set(2, 1000);
        Check.sits(x, 0, 0, "321");
        Check.sits(x, 3, 3, "101");
        Check.sits(x, 2, 2, "301");
        x.answer(1, 0, 3, 1);
        x.answer(1, 2, 0, 1);
        x.lose(0);
        // alike at question 0 are all three: three pairs
        int[] want = {3, 2, 3, 11, 6, 0, 3, 2, 1, BAD};
        for (int what = 0; what < want.length; what++) {
            due("count(" + what + ")", x.count(what), want[what]);
        }
        x.answer(2, 1, 1, 1);
        x.answer(0, 1, 1, 1);
        due("count: marks together", x.count(5), 2);
        due("count(-1)", x.count(-1), BAD);
    }

    private static void digest() {
        SameWrong x = Check.test("1?");
        long h = 17;
        // counts; fault; seats, sources, chain, gains; each question: key, should, without, hard, parts; badly
        long[] first = {2, 1, 0, 0, 0, 0, 0, 0, -1, 0, 0, 0, 1, 1,
            1, -1, 0, 0, Check.NOT_LONG, Check.NOT_LONG, Check.NOT_LONG, Check.NOT_LONG,
            0, -1, 0, 0, Check.NOT_LONG, Check.NOT_LONG, Check.NOT_LONG, Check.NOT_LONG, 0};
        for (long v : first) {
            h = 31 * h + v;
        }
        due("digest, no pupils", x.digest(), h);
        x.set(2, 1000);
        Check.sits(x, 0, 0, "23");
        Check.sits(x, 0, 1, "30");
        x.answer(1, 0, 2, 1);
        h = 17;
        // with both pupils: mark, rank, passes, wrong, rubbed 0 to 2
        long[] second = {2, 1, 2, 5, 3, 0, 1, 1, -1,
            0, 1, 0, 1, 0, 0, 0,
            0, 1, 0, 1, 1, 0, 0,
            1, 1, 2, 1, 1,
            1, 2, 0, 2, 0, 1, 0, 1,
            0, 3, 0, 0, Check.NOT_LONG, Check.NOT_LONG, Check.NOT_LONG, Check.NOT_LONG, 1};
        for (long v : second) {
            h = 31 * h + v;
        }
        due("digest, two pupils", x.digest(), h);
        due("digest changes nothing", x.digest(), h);
    }

    // ---- all

    private static long print(SameWrong x) {
        long h = x.digest();
        for (int s = 0; s < 3; s++) {
            for (int i = 0; i < 4; i++) {
                h = 31 * h + x.get(s, s, i);
            }
        }
        return 31 * h + x.count(8);
    }

    private static void refusalsChangeNothing() {
        SameWrong x = Check.test("1111111");
        Check.sits(x, 0, 0, "2211111");
        Check.sits(x, 0, 1, "2211333");
        for (int s = 0; s < 3; s++) {
            x.sheet(s, s, 4);
            x.put(s, s, 2, 5);
        }
        x.lose(3);
        x.lose(3);
        long before = print(x);
        int[] bad = {LEAST, -1, 5000, Integer.MAX_VALUE};
        for (int b : bad) {
            x.questions(b);
            x.type(b);
            x.set(0, b);
            x.set(1, b);
            x.set(2, b);
            x.set(b, 1);
            x.pupil(b, 1);
            x.pupil(1, b);
            x.answer(b, 0, 1, 1);
            x.answer(0, b, 1, 1);
            x.answer(0, 0, b, 1);
            x.answer(0, 0, 1, b);
            x.read(b, 0, 1);
            x.read(0, b, 1);
            x.read(0, 0, b);
            x.sheet(b, 0, 1);
            x.sheet(0, b, 1);
            x.sheet(0, 0, b > 0 ? b : 49);
            x.lose(b);
            x.put(b, 0, 0, 1);
            x.put(0, b, 0, 1);
            x.copy(b, 0, 0, 0, 4);
            x.copy(0, 0, b, 0, 4);
            x.write(b, 0);
            x.write(0, b);
        }
        x.pupil(0, 0);
        due("BAD changes nothing", print(x), before);
        x.put(0, 0, 9, 1);
        x.put(0, 1, 0, 1);
        x.sheet(0, 0, -1);
        x.copy(0, 0, 1, 0, 4);
        x.copy(0, 0, 0, 1, 4);
        x.write(0, 3);
        x.read(3, 0, 1);
        due("findings change nothing but count() 8", print(x), before);
    }

    /** Every call with every strange number, on an empty object and on a full one. */
    private static void noCallThrows() {
        SameWrong empty = new SameWrong();
        SameWrong full = Check.test("111111111111");
        for (int p = 0; p < 10; p++) {
            full.pupil(p / 5, p % 5);
        }
        for (int i = 0; i < 150; i++) {
            full.answer(i % 10, i % 12, i % 5 + 1, i);
        }
        int[] strange = {LEAST, -1, 0, 1, 4, 9, 10, 11, 12, 47, 48, 1023, 1024, 1 << 30, Integer.MAX_VALUE};
        int calls = 0;
        for (int a : strange) {
            for (int b : strange) {
                calls += callAll(empty, a, b) + callAll(full, a, b);
            }
        }
        due("calls with strange numbers came back", calls, 2 * strange.length * strange.length);
    }

    private static int callAll(SameWrong x, int a, int b) {
        x.key(a);
        x.said(a, b);
        x.beside(a, b);
        x.mark(a, b);
        x.rubbed(a, b);
        x.known(a, b);
        x.from(a, b);
        x.should(a);
        x.without(a, b);
        x.hard(a, b);
        x.parts(a, b);
        x.seats(a);
        x.gains(a, b);
        x.count(a);
        for (int c = -1; c <= 2; c++) {
            x.shared(a, b, c);
            x.chance(a, b, c);
            x.lead(a, b, c);
            x.rest(a, b, c);
            x.get(c, a, b);
            x.put(c, a, b, a);
            x.copy(c, a, c, b, a);
            x.copy(c, a, 0, a, b);
        }
        x.write(a, b);
        return 1;
    }
}
