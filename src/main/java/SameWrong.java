import java.util.Arrays;

/**
 * The same wrong answers: who sat beside whom, who chose the same wrong ones, and how likely that is.
 * Words in capitals are those of the document.
 */
public final class SameWrong {
    public static final int NONE = -1, BAD = -2, NOT = -3, FULL = -4;

    private static final int MOST_QUESTIONS = 12;
    private static final int MOST_CHOICES = 5;
    private static final int MOST_PUPILS = 10;
    private static final int MOST_TELLINGS = 150;
    private static final int MOST_BOTH = 7;
    private static final int MOST_DEALT = 7;
    private static final int MOST_RUBBED = 60;
    private static final int MOST_SHEETS = 4;
    private static final int MOST_ITEMS = 48;
    private static final int LAST_ROW = 3, LAST_PLACE = 4;
    private static final int LAST_TIME = 999;
    private static final int ALL_BITS = 1023;
    private static final int SET_BAD = -5;
    private static final int NULL = 1, INDEX = 2, CAST = 3, STORE = 4, SIZE = 5;
    private static final int LEAST_INT = 1 << 31;
    private static final long LEAST_LONG = 1L << 63;

    private final Key theKey;
    private final Room room;
    private final Tellings tellings;
    private final Marks marks;
    private final Rubbings rubbings;
    private final Pairs pairs;
    private final Givers givers;
    private final Deals deals;
    private final Items items;
    private final Fraction fraction;
    private final Sheet[] sheets;
    private int finding;

    public SameWrong() {
        theKey = new Key();
        room = new Room();
        tellings = new Tellings();
        fraction = new Fraction();
        marks = new Marks(theKey, room, tellings);
        rubbings = new Rubbings(theKey, tellings);
        pairs = new Pairs(theKey, room, tellings, fraction);
        givers = new Givers(room, marks, rubbings, pairs);
        deals = new Deals(room, pairs);
        items = new Items(room, tellings, marks);
        sheets = new Sheet[MOST_SHEETS];
        for (int s = 0; s < MOST_SHEETS; s++) {
            sheets[s] = new Sheet();
        }
        finding = 0;
    }

    // ---- the test

    public int questions(int n) {
        if (!within(n, 1, MOST_QUESTIONS)) {
            return BAD;
        }
        int before = theKey.questions;
        theKey.ask(n);
        return before;
    }

    public int type(int b) {
        if (!within(b, 0, 255)) {
            return BAD;
        }
        if (theKey.length >= MOST_QUESTIONS) {
            return FULL;
        }
        theKey.append(b);
        return theKey.length;
    }

    public int wipe() {
        int before = theKey.length;
        theKey.empty();
        return before;
    }

    public int fault() {
        return theKey.faultAt;
    }

    public int key(int question) {
        return isQuestion(question) ? theKey.choices[question] : BAD;
    }

    public int set(int what, int v) {
        if (what == 0 && within(v, 0, LAST_TIME)) {
            int before = tellings.asOf;
            tellings.lookAsOf(v);
            return before;
        }
        if (what == 1 && within(v, 0, 100)) {
            int before = marks.pass;
            marks.pass = v;
            return before;
        }
        if (what == 2 && within(v, 0, 1000)) {
            int before = pairs.limit;
            pairs.limit = v;
            return before;
        }
        return SET_BAD;
    }

    // ---- pupils, answers

    public int pupil(int row, int place) {
        if (!within(row, 0, LAST_ROW) || !within(place, 0, LAST_PLACE) || room.isTaken(row, place)) {
            return BAD;
        }
        if (room.size >= MOST_PUPILS) {
            return FULL;
        }
        room.seat(row, place);
        return room.size - 1;
    }

    public int answer(int pupil, int question, int v, int time) {
        if (!isPupil(pupil) || !isQuestion(question) || !within(v, 0, MOST_CHOICES) || !isNextTime(time)) {
            return BAD;
        }
        if (tellings.size >= MOST_TELLINGS) {
            return FULL;
        }
        tellings.tell(pupil, question, v, time);
        return tellings.size;
    }

    public int read(int s, int pupil, int time) {
        if (!isSheet(s) || !isPupil(pupil) || !isNextTime(time)) {
            return BAD;
        }
        Sheet sheet = sheets[s];
        if (sheet.lost) {
            return find(NULL);
        }
        int taken = 0;
        while (taken < sheet.size && answer(pupil, taken, sheet.row[taken], time) >= 0) {
            taken++;
        }
        return taken;
    }

    public int said(int pupil, int question) {
        return isPupil(pupil) && isQuestion(question) ? tellings.current[pupil][question] : BAD;
    }

    public int beside(int a, int b) {
        if (!isPair(a, b)) {
            return BAD;
        }
        return room.areNear(a, b) ? 1 : 0;
    }

    // ---- marks

    public int mark(int pupil, int what) {
        if (!isPupil(pupil)) {
            return BAD;
        }
        switch (what) {
            case 0: return marks.markOf(pupil);
            case 1: return marks.rankOf(pupil);
            case 2: return marks.passes(marks.markOf(pupil), theKey.open) ? 1 : 0;
            case 3: return marks.wrongsOf(pupil);
            default: return BAD;
        }
    }

    public int shared(int a, int b, int what) {
        if (!isPair(a, b)) {
            return BAD;
        }
        switch (what) {
            case 0: return pairs.sameWrongs(a, b);
            case 1: return pairs.bothWrongs(a, b);
            case 2: return pairs.areOdd(a, b) ? 1 : 0;
            default: return BAD;
        }
    }

    public long chance(int a, int b, int what) {
        if (!isPair(a, b) || !isPart(what)) {
            return refusal(BAD);
        }
        if (!pairs.reckonChance(a, b)) {
            return refusal(FULL);
        }
        return fraction.part(what);
    }

    // ---- seats

    public int seats(int what) {
        switch (what) {
            case 0: return pairs.besideInAll();
            case 1: return deals.millionths();
            default: return BAD;
        }
    }

    public int sources() {
        givers.link();
        return givers.fewest();
    }

    public int from(int a, int b) {
        if (!isPair(a, b)) {
            return BAD;
        }
        if (!room.areNear(a, b) || !pairs.areOdd(a, b)) {
            return NOT;
        }
        givers.weigh();
        return givers.giver(a, b);
    }

    public int chain() {
        givers.link();
        givers.weigh();
        return givers.longestChain();
    }

    // ---- rubbed out, known

    public int rubbed(int pupil, int what) {
        if (!isPupil(pupil) || !within(what, 0, 2)) {
            return BAD;
        }
        return rubbings.countOf(1 << pupil, what);
    }

    public long gains(int pupils, int what) {
        if (!within(pupils, 0, ALL_BITS) || !isPart(what)) {
            return refusal(BAD);
        }
        if (rubbings.countOf(ALL_BITS, 0) > MOST_RUBBED) {
            return refusal(FULL);
        }
        rubbings.reckonGains(pupils, fraction);
        return fraction.part(what);
    }

    public int known(int pupils, int p) {
        if (!within(pupils, 1, ALL_BITS) || (pupils & room.allBits()) == 0 || !within(p, 0, 100)) {
            return BAD;
        }
        int some = pupils & room.allBits();
        int others = room.allBits() & ~pupils;
        int bits = 0;
        for (int q = 0; q < theKey.questions; q++) {
            boolean allHaveIt = marks.rightsTo(q, some) == Integer.bitCount(some);
            boolean fewOthers = marks.rightsTo(q, others) * 100 <= p * Integer.bitCount(others);
            if (theKey.choices[q] != 0 && allHaveIt && fewOthers) {
                bits |= 1 << q;
            }
        }
        return bits;
    }

    public long lead(int question, int pupils, int what) {
        if (!isQuestion(question) || !within(pupils, 0, ALL_BITS) || !isPart(what)) {
            return refusal(BAD);
        }
        int some = pupils & room.allBits();
        int others = room.allBits() & ~pupils;
        if (some == 0 || others == 0 || theKey.choices[question] == 0) {
            return refusal(NOT);
        }
        long above = marks.rightsTo(question, some) * Integer.bitCount(others)
                - marks.rightsTo(question, others) * Integer.bitCount(some);
        fraction.become(above, Integer.bitCount(some) * Integer.bitCount(others));
        return fraction.part(what);
    }

    // ---- questions

    public long rest(int question, int choice, int what) {
        if (!isQuestion(question) || !within(choice, 1, MOST_CHOICES) || !isPart(what)) {
            return refusal(BAD);
        }
        int choosers = items.choosersOf(question, choice);
        if (choosers == 0) {
            return refusal(NOT);
        }
        fraction.become(items.restsOf(question, choice), choosers);
        return fraction.part(what);
    }

    public int should(int question) {
        return isQuestion(question) ? items.bestChoice(question) : BAD;
    }

    public int badly() {
        int bits = 0;
        for (int q = 0; q < theKey.questions; q++) {
            int best = theKey.choices[q] == 0 ? NONE : items.bestChoice(q);
            if (best != NONE && best != theKey.choices[q]) {
                bits |= 1 << q;
            }
        }
        return bits;
    }

    public int without(int question, int what) {
        if (!isQuestion(question) || !within(what, 0, 1)) {
            return BAD;
        }
        return what == 0 ? marks.otherRanks(question) : marks.otherPasses(question);
    }

    public long hard(int question, int what) {
        if (!isQuestion(question) || !isPart(what)) {
            return refusal(BAD);
        }
        if (room.size == 0 || theKey.choices[question] == 0) {
            return refusal(NOT);
        }
        fraction.become(marks.rightsTo(question, room.allBits()), room.size);
        return fraction.part(what);
    }

    public long parts(int question, int what) {
        if (!isQuestion(question) || !isPart(what)) {
            return refusal(BAD);
        }
        if (room.size < 2 || theKey.choices[question] == 0) {
            return refusal(NOT);
        }
        fraction.become(items.betterLessWorse(question), room.size / 2);
        return fraction.part(what);
    }

    // ---- sheets

    public int sheet(int s, int form, int n) {
        if (!isSheet(s) || !within(form, 0, 2) || n > MOST_ITEMS) {
            return BAD;
        }
        if (n < 0) {
            return find(SIZE);
        }
        sheets[s].renew(form, n);
        return n;
    }

    public int lose(int s) {
        if (!isSheet(s)) {
            return BAD;
        }
        if (sheets[s].lost) {
            return find(NULL);
        }
        sheets[s].lost = true;
        return sheets[s].size;
    }

    public int put(int s, int form, int i, int v) {
        if (!isSheet(s) || !within(form, 0, 2)) {
            return BAD;
        }
        int found = sheets[s].findingAt(form, i);
        if (found != 0) {
            return find(found);
        }
        sheets[s].store(i, v);
        return 1;
    }

    public int get(int s, int form, int i) {
        if (!isSheet(s) || !within(form, 0, 2)) {
            return LEAST_INT;
        }
        int found = sheets[s].findingAt(form, i);
        if (found != 0) {
            find(found);
            return LEAST_INT;
        }
        return sheets[s].row[i];
    }

    public int copy(int s, int i, int t, int j, int n) {
        if (!isSheet(s) || !isSheet(t)) {
            return BAD;
        }
        Sheet source = sheets[s];
        Sheet target = sheets[t];
        if (source.lost || target.lost) {
            return find(NULL);
        }
        if (source.form != target.form) {
            return find(STORE);
        }
        if (!source.holds(i, n) || !target.holds(j, n)) {
            return find(INDEX);
        }
        System.arraycopy(source.row, i, target.row, j, n);
        return 1;
    }

    public int write(int pupil, int s) {
        if (!isPupil(pupil) || !isSheet(s)) {
            return BAD;
        }
        Sheet sheet = sheets[s];
        if (sheet.lost) {
            return find(NULL);
        }
        int many = Math.min(sheet.size, theKey.questions);
        for (int q = 0; q < many; q++) {
            sheet.store(q, tellings.current[pupil][q]);
        }
        return many;
    }

    public int count(int what) {
        switch (what) {
            case 0: return theKey.questions;
            case 1: return theKey.open;
            case 2: return room.size;
            case 3: return tellings.size;
            case 4: return answersGiven();
            case 5: return marks.together();
            case 6: return pairs.oddPairs();
            case 7: return rubbings.countOf(ALL_BITS, 0);
            case 8: return finding;
            default: return BAD;
        }
    }

    public long digest() {
        long h = 17;
        for (int what = 0; what <= 7; what++) {
            h = 31 * h + count(what);
        }
        h = 31 * h + fault();
        for (int p = 0; p < room.size; p++) {
            h = withPupil(h, p);
        }
        h = 31 * h + seats(0);
        h = 31 * h + sources();
        h = 31 * h + chain();
        h = 31 * h + gains(1, 0);
        h = 31 * h + gains(1, 1);
        for (int q = 0; q < theKey.questions; q++) {
            h = withQuestion(h, q);
        }
        return 31 * h + badly();
    }

    private long withPupil(long digested, int p) {
        long h = digested;
        for (int what = 0; what <= 3; what++) {
            h = 31 * h + mark(p, what);
        }
        for (int what = 0; what <= 2; what++) {
            h = 31 * h + rubbed(p, what);
        }
        return h;
    }

    private long withQuestion(long digested, int q) {
        long h = 31 * digested + key(q);
        h = 31 * h + should(q);
        h = 31 * h + without(q, 0);
        h = 31 * h + without(q, 1);
        h = 31 * h + hard(q, 0);
        h = 31 * h + hard(q, 1);
        h = 31 * h + parts(q, 0);
        return 31 * h + parts(q, 1);
    }

    private int answersGiven() {
        int given = 0;
        for (int p = 0; p < room.size; p++) {
            for (int q = 0; q < theKey.questions; q++) {
                if (tellings.current[p][q] != 0) {
                    given++;
                }
            }
        }
        return given;
    }

    private int find(int number) {
        finding = number;
        return -10 - number;
    }

    private boolean isQuestion(int q) {
        return within(q, 0, theKey.questions - 1);
    }

    private boolean isPupil(int p) {
        return within(p, 0, room.size - 1);
    }

    private boolean isPair(int a, int b) {
        return isPupil(a) && isPupil(b) && a != b;
    }

    private boolean isNextTime(int time) {
        return within(time, tellings.latestTime(), LAST_TIME);
    }

    private static boolean isSheet(int s) {
        return within(s, 0, MOST_SHEETS - 1);
    }

    /** Of a FRACTION: 0 above, 1 below. */
    private static boolean isPart(int what) {
        return within(what, 0, 1);
    }

    private static boolean within(int v, int least, int most) {
        return v >= least && v <= most;
    }

    private static long refusal(int code) {
        return LEAST_LONG - code;
    }

    /** THE KEY: read once, whenever it or the number of QUESTIONS becomes another, as all else asks it often. */
    private static final class Key {
        final int[] choices = new int[MOST_QUESTIONS];
        int length = 0;
        int questions = 10;
        int faultAt = 0;
        int open = 0;
        private final int[] bytes = new int[MOST_QUESTIONS];

        void ask(int n) {
            questions = n;
            settle();
        }

        void append(int b) {
            if (length < MOST_QUESTIONS) {
                bytes[length] = b;
                length++;
                settle();
            }
        }

        void empty() {
            length = 0;
            settle();
        }

        private void settle() {
            faultAt = firstFault();
            open = 0;
            for (int q = 0; q < MOST_QUESTIONS; q++) {
                boolean struck = faultAt != NONE || q >= questions || bytes[q] == '?';
                choices[q] = struck ? 0 : bytes[q] - '0';
                if (!struck) {
                    open++;
                }
            }
        }

        private int firstFault() {
            int inCommon = Math.min(length, questions);
            for (int i = 0; i < inCommon; i++) {
                if (bytes[i] != '?' && !within(bytes[i], '1', '5')) {
                    return i;
                }
            }
            return length == questions ? NONE : inCommon;
        }
    }

    /** PUPILS and their SEATS. */
    private static final class Room {
        int size = 0;
        private final int[] rows = new int[MOST_PUPILS];
        private final int[] places = new int[MOST_PUPILS];

        boolean isTaken(int row, int place) {
            for (int p = 0; p < size; p++) {
                if (rows[p] == row && places[p] == place) {
                    return true;
                }
            }
            return false;
        }

        void seat(int row, int place) {
            if (size < MOST_PUPILS) {
                rows[size] = row;
                places[size] = place;
                size++;
            }
        }

        boolean areNear(int a, int b) {
            return Math.abs(rows[a] - rows[b]) <= 1 && Math.abs(places[a] - places[b]) <= 1;
        }

        int allBits() {
            return (1 << size) - 1;
        }
    }

    /** All that was told, in its order; as TIMES never fall, what counts AS OF a TIME is the first part of it. */
    private static final class Tellings {
        int size = 0;
        int counted = 0;
        int asOf = LAST_TIME;
        /** The ANSWERS AS OF the TIME, by PUPIL and QUESTION. */
        final int[][] current = new int[MOST_PUPILS][MOST_QUESTIONS];
        final int[] pupils = new int[MOST_TELLINGS];
        final int[] questions = new int[MOST_TELLINGS];
        final int[] answers = new int[MOST_TELLINGS];
        /** What each telling found there: the same for every AS OF that counts the telling. */
        final int[] befores = new int[MOST_TELLINGS];
        private final int[] times = new int[MOST_TELLINGS];
        private final int[][] latest = new int[MOST_PUPILS][MOST_QUESTIONS];

        int latestTime() {
            return size == 0 ? 0 : times[size - 1];
        }

        void tell(int pupil, int question, int answer, int time) {
            if (size >= MOST_TELLINGS) {
                return;
            }
            pupils[size] = pupil;
            questions[size] = question;
            answers[size] = answer;
            befores[size] = latest[pupil][question];
            times[size] = time;
            latest[pupil][question] = answer;
            size++;
            countOn();
        }

        void lookAsOf(int time) {
            asOf = time;
            counted = 0;
            for (int p = 0; p < MOST_PUPILS; p++) {
                Arrays.fill(current[p], 0);
            }
            countOn();
        }

        private void countOn() {
            while (counted < size && times[counted] <= asOf) {
                current[pupils[counted]][questions[counted]] = answers[counted];
                counted++;
            }
        }
    }

    /** MARKS, RANKS and who PASSES, also with one QUESTION more STRUCK. */
    private static final class Marks {
        int pass = 50;
        private final Key key;
        private final Room room;
        private final Tellings tellings;
        private final int[] full = new int[MOST_PUPILS];
        private final int[] lessOne = new int[MOST_PUPILS];

        Marks(Key key, Room room, Tellings tellings) {
            this.key = key;
            this.room = room;
            this.tellings = tellings;
        }

        boolean isRight(int p, int q) {
            return key.choices[q] != 0 && tellings.current[p][q] == key.choices[q];
        }

        int markOf(int p) {
            return restOf(p, NONE);
        }

        int restOf(int p, int question) {
            int rights = 0;
            for (int q = 0; q < key.questions; q++) {
                if (q != question && isRight(p, q)) {
                    rights++;
                }
            }
            return rights;
        }

        int wrongsOf(int p) {
            int wrongs = 0;
            for (int q = 0; q < key.questions; q++) {
                if (key.choices[q] != 0 && tellings.current[p][q] != 0 && !isRight(p, q)) {
                    wrongs++;
                }
            }
            return wrongs;
        }

        int together() {
            int sum = 0;
            for (int p = 0; p < room.size; p++) {
                sum += markOf(p);
            }
            return sum;
        }

        int rightsTo(int q, int bits) {
            int rights = 0;
            for (int p = 0; p < room.size; p++) {
                if ((bits >> p & 1) != 0 && isRight(p, q)) {
                    rights++;
                }
            }
            return rights;
        }

        int rankOf(int p) {
            fillRests(full, NONE);
            return rankIn(full, p);
        }

        boolean passes(int mark, int open) {
            return mark * 100 >= pass * open;
        }

        int otherRanks(int question) {
            fillRests(full, NONE);
            fillRests(lessOne, question);
            int others = 0;
            for (int p = 0; p < room.size; p++) {
                if (rankIn(full, p) != rankIn(lessOne, p)) {
                    others++;
                }
            }
            return others;
        }

        int otherPasses(int question) {
            int openLess = key.choices[question] == 0 ? key.open : key.open - 1;
            int others = 0;
            for (int p = 0; p < room.size; p++) {
                if (passes(markOf(p), key.open) != passes(restOf(p, question), openLess)) {
                    others++;
                }
            }
            return others;
        }

        private void fillRests(int[] row, int question) {
            for (int p = 0; p < room.size; p++) {
                row[p] = restOf(p, question);
            }
        }

        private int rankIn(int[] row, int p) {
            int rank = 1;
            for (int other = 0; other < room.size; other++) {
                if (row[other] > row[p]) {
                    rank++;
                }
            }
            return rank;
        }
    }

    /** What was RUBBED OUT, and GAINS. */
    private static final class Rubbings {
        private final Key key;
        private final Tellings tellings;

        Rubbings(Key key, Tellings tellings) {
            this.key = key;
            this.tellings = tellings;
        }

        /** By PUPILS (bits): 0 how often, 1 to RIGHT from WRONG, 2 to WRONG from RIGHT. */
        int countOf(int bits, int what) {
            int times = 0;
            for (int i = 0; i < tellings.counted; i++) {
                if ((bits >> tellings.pupils[i] & 1) != 0 && wasRubbed(i) && isKind(i, what)) {
                    times++;
                }
            }
            return times;
        }

        void reckonGains(int bits, Fraction result) {
            int all = countOf(ALL_BITS, 0);
            int good = countOf(ALL_BITS, 1);
            int drawn = countOf(bits, 0);
            int most = Math.min(good, drawn);
            long above = 0;
            for (int k = countOf(bits, 1); k <= most; k++) {
                above += waysToDraw(good, k) * waysToDraw(all - good, drawn - k);
            }
            result.become(above, waysToDraw(all, drawn));
        }

        private boolean wasRubbed(int i) {
            return tellings.questions[i] < key.questions
                    && tellings.befores[i] != 0 && tellings.befores[i] != tellings.answers[i];
        }

        private boolean isKind(int i, int what) {
            int right = key.choices[tellings.questions[i]];
            if (what == 0) {
                return true;
            }
            if (right == 0) {
                return false;
            }
            // what was RUBBED OUT is neither 0 nor like the new one: at most one of both is RIGHT
            return what == 1
                    ? tellings.answers[i] == right
                    : tellings.befores[i] == right && tellings.answers[i] != 0;
        }

        /** How many sets of k there are among n (60 at most: no step of it leaves a long). */
        private static long waysToDraw(int n, int k) {
            if (k < 0 || k > n) {
                return 0;
            }
            int fewer = Math.min(k, n - k);
            long ways = 1;
            for (int i = 1; i <= fewer; i++) {
                ways = ways * (n - fewer + i) / i;
            }
            return ways;
        }
    }

    /** What two PUPILS have SHARED, and whether they are ODD. */
    private static final class Pairs {
        int limit = 50;
        private final Key key;
        private final Room room;
        private final Tellings tellings;
        private final Fraction fraction;
        private final int[] choosers = new int[MOST_CHOICES + 1];
        /** Of how many ways, each as likely, so many QUESTIONS are alike. */
        private final long[] ways = new long[MOST_BOTH + 1];

        Pairs(Key key, Room room, Tellings tellings, Fraction fraction) {
            this.key = key;
            this.room = room;
            this.tellings = tellings;
            this.fraction = fraction;
        }

        int sameWrongs(int a, int b) {
            int same = 0;
            for (int q = 0; q < key.questions; q++) {
                if (areBothWrong(a, b, q) && tellings.current[a][q] == tellings.current[b][q]) {
                    same++;
                }
            }
            return same;
        }

        int bothWrongs(int a, int b) {
            int both = 0;
            for (int q = 0; q < key.questions; q++) {
                if (areBothWrong(a, b, q)) {
                    both++;
                }
            }
            return both;
        }

        boolean areOdd(int a, int b) {
            return sameWrongs(a, b) > 0 && reckonChance(a, b)
                    && fraction.above * 1000 <= limit * fraction.below;
        }

        int oddPairs() {
            int odd = 0;
            for (int a = 0; a < room.size; a++) {
                for (int b = a + 1; b < room.size; b++) {
                    if (areOdd(a, b)) {
                        odd++;
                    }
                }
            }
            return odd;
        }

        int besideInAll() {
            int sum = 0;
            for (int a = 0; a < room.size; a++) {
                for (int b = a + 1; b < room.size; b++) {
                    if (room.areNear(a, b)) {
                        sum += sameWrongs(a, b);
                    }
                }
            }
            return sum;
        }

        /** CHANCE comes to the fraction; false: FULL. */
        boolean reckonChance(int a, int b) {
            if (bothWrongs(a, b) > MOST_BOTH) {
                return false;
            }
            Arrays.fill(ways, 0);
            ways[0] = 1;
            long allWays = 1;
            int met = 0;
            for (int q = 0; q < key.questions; q++) {
                if (areBothWrong(a, b, q)) {
                    allWays *= meet(a, b, q, met);
                    met++;
                }
            }
            long enough = 0;
            for (int k = sameWrongs(a, b); k <= met; k++) {
                enough += ways[k];
            }
            fraction.become(enough, allWays);
            return true;
        }

        /** The ways with one QUESTION more, behind those met: how many times as many there are. */
        private long meet(int a, int b, int q, int met) {
            countChoosers(a, b, q);
            long alike = 0;
            int parts = 0;
            for (int c = 1; c <= MOST_CHOICES; c++) {
                if (c != key.choices[q]) {
                    int part = 1 + choosers[c];
                    alike += part * part;
                    parts += part;
                }
            }
            long all = parts * parts;
            for (int k = Math.min(met, MOST_BOTH - 1); k >= 0; k--) {
                ways[k + 1] += ways[k] * alike;
                ways[k] *= all - alike;
            }
            return all;
        }

        private void countChoosers(int a, int b, int q) {
            Arrays.fill(choosers, 0);
            for (int p = 0; p < room.size; p++) {
                if (p != a && p != b) {
                    choosers[tellings.current[p][q]]++;
                }
            }
        }

        private boolean areBothWrong(int a, int b, int q) {
            int right = key.choices[q];
            int first = tellings.current[a][q];
            int second = tellings.current[b][q];
            return right != 0 && first != 0 && second != 0 && first != right && second != right;
        }
    }

    /** SOURCES, FROM and CHAIN: those who are ODD and NEIGHBOURS, and who gave to whom. */
    private static final class Givers {
        private final Room room;
        private final Marks marks;
        private final Rubbings rubbings;
        private final Pairs pairs;
        private final int[] links = new int[MOST_PUPILS];
        private final int[] weights = new int[MOST_PUPILS];
        private final int[] lengths = new int[MOST_PUPILS];

        Givers(Room room, Marks marks, Rubbings rubbings, Pairs pairs) {
            this.room = room;
            this.marks = marks;
            this.rubbings = rubbings;
            this.pairs = pairs;
        }

        void link() {
            Arrays.fill(links, 0);
            for (int a = 0; a < room.size; a++) {
                for (int b = a + 1; b < room.size; b++) {
                    if (room.areNear(a, b) && pairs.areOdd(a, b)) {
                        links[a] |= 1 << b;
                        links[b] |= 1 << a;
                    }
                }
            }
        }

        /** Behind link(). */
        int fewest() {
            int best = room.allBits();
            for (int bits = 0; bits <= room.allBits(); bits++) {
                if (Integer.bitCount(bits) < Integer.bitCount(best) && covers(bits)) {
                    best = bits;
                }
            }
            return best;
        }

        /** One number for each PUPIL: the MARK, then fewer RUBBED OUT, so that the greater one gave. */
        void weigh() {
            for (int p = 0; p < room.size; p++) {
                weights[p] = marks.markOf(p) * (MOST_TELLINGS + 1) - rubbings.countOf(1 << p, 0);
            }
        }

        /** Behind weigh(). */
        int giver(int a, int b) {
            if (weights[a] == weights[b]) {
                return NONE;
            }
            return weights[a] > weights[b] ? a : b;
        }

        /** Behind link() and weigh(). */
        int longestChain() {
            Arrays.fill(lengths, 1);
            int longest = Math.min(room.size, 1);
            // one gives to none who gave to the one: as many rounds as PUPILS reach every end
            for (int round = 0; round < room.size; round++) {
                for (int a = 0; a < room.size; a++) {
                    longest = Math.max(longest, lengthen(a));
                }
            }
            return longest;
        }

        private int lengthen(int a) {
            int longest = lengths[a];
            for (int b = 0; b < room.size; b++) {
                if ((links[a] >> b & 1) != 0 && giver(a, b) == a) {
                    lengths[b] = Math.max(lengths[b], lengths[a] + 1);
                    longest = Math.max(longest, lengths[b]);
                }
            }
            return longest;
        }

        private boolean covers(int bits) {
            for (int p = 0; p < room.size; p++) {
                if ((bits >> p & 1) == 0 && (links[p] & ~bits) != 0) {
                    return false;
                }
            }
            return true;
        }
    }

    /** HOW LIKELY: PUPILS dealt over the SEATS in all orders. */
    private static final class Deals {
        private final Room room;
        private final Pairs pairs;
        private final int[] common = new int[MOST_DEALT * MOST_DEALT];
        private final int[] dealt = new int[MOST_DEALT];
        private int goal = 0;

        Deals(Room room, Pairs pairs) {
            this.room = room;
            this.pairs = pairs;
        }

        int millionths() {
            if (room.size > MOST_DEALT) {
                return FULL;
            }
            for (int a = 0; a < room.size; a++) {
                for (int b = 0; b < room.size; b++) {
                    common[a * MOST_DEALT + b] = a == b ? 0 : pairs.sameWrongs(a, b);
                }
            }
            goal = pairs.besideInAll();
            return (int) (ordersFrom(0, 0, 0) * 1000000 / orders(room.size));
        }

        /** How many orders reach the goal, with the SEATS ahead of this one dealt to those used. */
        private long ordersFrom(int seat, int used, int sum) {
            if (sum >= goal) {
                return orders(room.size - seat);
            }
            if (seat >= room.size || seat >= MOST_DEALT) {
                return 0;
            }
            long reached = 0;
            for (int p = 0; p < room.size; p++) {
                if ((used >> p & 1) == 0) {
                    dealt[seat] = p;
                    reached += ordersFrom(seat + 1, used | 1 << p, sum + withNear(seat));
                }
            }
            return reached;
        }

        private int withNear(int seat) {
            int sum = 0;
            for (int other = 0; other < seat; other++) {
                if (room.areNear(other, seat)) {
                    sum += common[dealt[other] * MOST_DEALT + dealt[seat]];
                }
            }
            return sum;
        }

        private static long orders(int many) {
            long product = 1;
            for (int i = 2; i <= many; i++) {
                product *= i;
            }
            return product;
        }
    }

    /** Single QUESTIONS by the REST of those who chose this or that. */
    private static final class Items {
        private final Room room;
        private final Tellings tellings;
        private final Marks marks;
        private final int[] rests = new int[MOST_PUPILS];
        private final int[] order = new int[MOST_PUPILS];

        Items(Room room, Tellings tellings, Marks marks) {
            this.room = room;
            this.tellings = tellings;
            this.marks = marks;
        }

        int choosersOf(int question, int choice) {
            int choosers = 0;
            for (int p = 0; p < room.size; p++) {
                if (tellings.current[p][question] == choice) {
                    choosers++;
                }
            }
            return choosers;
        }

        int restsOf(int question, int choice) {
            int sum = 0;
            for (int p = 0; p < room.size; p++) {
                if (tellings.current[p][question] == choice) {
                    sum += marks.restOf(p, question);
                }
            }
            return sum;
        }

        int bestChoice(int question) {
            int best = NONE;
            int bestChoosers = 0;
            int bestRests = 0;
            for (int c = 1; c <= MOST_CHOICES; c++) {
                int choosers = choosersOf(question, c);
                int rests = restsOf(question, c);
                int ahead = rests * bestChoosers - bestRests * choosers;
                if (choosers > 0 && (best == NONE || ahead > 0 || ahead == 0 && choosers > bestChoosers)) {
                    best = c;
                    bestChoosers = choosers;
                    bestRests = rests;
                }
            }
            return best;
        }

        int betterLessWorse(int question) {
            orderByRest(question);
            int half = room.size / 2;
            int difference = 0;
            for (int i = 0; i < half; i++) {
                if (marks.isRight(order[i], question)) {
                    difference++;
                }
                if (marks.isRight(order[room.size - 1 - i], question)) {
                    difference--;
                }
            }
            return difference;
        }

        private void orderByRest(int question) {
            for (int p = 0; p < room.size; p++) {
                rests[p] = marks.restOf(p, question);
                int at = p;
                while (at > 0 && rests[order[at - 1]] < rests[p]) {
                    order[at] = order[at - 1];
                    at--;
                }
                order[at] = p;
            }
        }
    }

    /** A FRACTION in lowest terms, used again for every answer. */
    private static final class Fraction {
        long above = 0;
        long below = 1;

        void become(long a, long b) {
            long divisor = commonDivisor(Math.abs(a), b);
            above = divisor == 0 ? 0 : a / divisor;
            below = divisor == 0 ? 1 : b / divisor;
        }

        long part(int what) {
            return what == 0 ? above : below;
        }

        private static long commonDivisor(long a, long b) {
            long greater = a;
            long lesser = b;
            // no two longs need more than 92 steps
            for (int step = 0; step < 100 && lesser != 0; step++) {
                long left = greater % lesser;
                greater = lesser;
                lesser = left;
            }
            return greater;
        }
    }

    /** A SHEET; its row is made once, and only the first items of it are there. */
    private static final class Sheet {
        boolean lost = true;
        int form = 0;
        int size = 0;
        final int[] row = new int[MOST_ITEMS];

        void renew(int newForm, int n) {
            lost = false;
            form = newForm;
            size = Math.min(n, MOST_ITEMS);
            Arrays.fill(row, 0);
        }

        int findingAt(int asForm, int i) {
            if (lost) {
                return NULL;
            }
            if (form != asForm) {
                return CAST;
            }
            return within(i, 0, size - 1) ? 0 : INDEX;
        }

        boolean holds(int i, int n) {
            return within(i, 0, size) && within(n, 0, size - i);
        }

        void store(int i, int v) {
            if (form == 0) {
                row[i] = (byte) v;
            } else {
                row[i] = form == 1 ? (short) v : v;
            }
        }
    }
}
