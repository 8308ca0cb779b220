/** Every sentence on sheets, counts and the digest that names a boundary, promises 30 to 37. */
public final class SheetBoundsTest {
    private static final int NONE = -1, BAD = -2;
    private static final int NULL = -11, INDEX = -12, CAST = -13, STORE = -14, SIZE = -15;
    private static final int LEAST = Integer.MIN_VALUE, GREATEST = Integer.MAX_VALUE;

    private SheetBoundsTest() {
    }

    public static void main(String[] args) {
        Check.runPromises(SheetBoundsTest.class, 30, 37);
        Check.end();
    }

    private static void due(String call, long got, long want) {
        Check.due(call, got, want);
    }

    /** Sheet 0 of a form, with items 1, 2, .. */
    private static SameWrong numbered(int form, int size) {
        SameWrong x = new SameWrong();
        x.sheet(0, form, size);
        for (int i = 0; i < size; i++) {
            x.put(0, form, i, i + 1);
        }
        return x;
    }

    private static String items(SameWrong x, int s, int form, int size) {
        StringBuilder text = new StringBuilder();
        for (int i = 0; i < size; i++) {
            text.append(x.get(s, form, i)).append('\n');
        }
        return text.toString();
    }

    private static String row(int... items) {
        StringBuilder text = new StringBuilder();
        for (int item : items) {
            text.append(item).append('\n');
        }
        return text.toString();
    }

    private static SameWrong sheet0Lost() {
        SameWrong x = Worlds.busy();
        x.lose(0);
        return x;
    }

    // ---- promise 30: "A SHEET is a new row of a FORM with n items: n. BAD: SHEET, FORM, above 48; SIZE."

    /** "SHEETS 0 .. 3 .. of a FORM: 0 bytes, 1 shorts, 2 ints, of 0 to 48 items" */
    static void promise30SheetTakesAllSheetsFormsAndSizes() {
        for (int s = 0; s <= 3; s++) {
            for (int form = 0; form <= 2; form++) {
                for (int n = 0; n <= 48; n++) {
                    SameWrong x = new SameWrong();
                    due("sheet(" + s + ", " + form + ", " + n + ")", x.sheet(s, form, n), n);
                    if (n > 0) {
                        due("the first", x.put(s, form, 0, 5), 1);
                        due("the last", x.put(s, form, n - 1, 7), 1);
                    }
                    due("behind the last", x.put(s, form, n, 7), INDEX);
                    due("items", x.lose(s), n);
                }
            }
        }
    }

    static void promise30SheetRefusesOtherSheets() {
        for (int n : new int[] {0, 48}) {
            Refused.outside("sheet", Worlds::empty, 0, 3, BAD, (x, s) -> x.sheet(s, 0, n));
            Refused.outside("sheet", Worlds::busy, 0, 3, BAD, (x, s) -> x.sheet(s, 2, n));
        }
    }

    static void promise30SheetRefusesOtherForms() {
        for (int n : new int[] {0, 48}) {
            Refused.outside("form", Worlds::empty, 0, 2, BAD, (x, form) -> x.sheet(0, form, n));
            Refused.outside("form", Worlds::busy, 0, 2, BAD, (x, form) -> x.sheet(1, form, n));
        }
    }

    /** "BAD: .. above 48" */
    static void promise30SheetAbove48IsBad() {
        for (int n : new int[] {49, 50, 256, 65536, GREATEST - 1, GREATEST}) {
            Refused.call("sheet of " + n, Worlds::empty, BAD, x -> x.sheet(0, 0, n));
            Refused.call("sheet of " + n, Worlds::busy, BAD, x -> x.sheet(1, 1, n));
        }
    }

    /** "5 SIZE: below 0": a LOST one stays LOST, one that is there stays as it is. */
    static void promise30SheetBelow0IsSize() {
        for (int n : new int[] {-1, -2, -48, -256, LEAST, LEAST + 1, LEAST + 48}) {
            Refused.call("sheet of " + n, Worlds::empty, SIZE, x -> x.sheet(0, 0, n));
            Refused.call("sheet of " + n, Worlds::busy, SIZE, x -> x.sheet(1, 2, n));
            Refused.call("sheet of " + n + ", lost", Worlds::busy, SIZE, x -> x.sheet(3, 2, n));
        }
    }

    static void promise30SheetBadAheadOfSize() {
        Refused.outside("sheet", Worlds::busy, 0, 3, BAD, (x, s) -> x.sheet(s, 0, -1));
        Refused.outside("form", Worlds::busy, 0, 2, BAD, (x, form) -> x.sheet(0, form, LEAST));
    }

    /** "(0 at first)": a new row has nothing of the one before, of whatever FORM and size that was. */
    static void promise30SheetIs0AtFirst() {
        for (int form = 0; form <= 2; form++) {
            for (int before = 0; before <= 2; before++) {
                SameWrong x = numbered(before, 48);
                x.sheet(0, form, 3);
                due("three items", x.put(0, form, 3, 1), INDEX);
                x.sheet(0, form, 48);
                for (int i = 0; i < 48; i++) {
                    due("item " + i, x.get(0, form, i), 0);
                }
            }
        }
    }

    static void promise30SheetLeavesTheOthers() {
        SameWrong x = Worlds.busy(), twin = Worlds.busy();
        x.sheet(3, 1, 48);
        x.put(3, 1, 0, 77);
        x.lose(3);
        Check.alike("sheets 0 to 2", Look.at(x), Look.at(twin));
    }

    // ---- promise 31: "It is LOST: how many items it had. BAD; NULL."

    static void promise31LoseTakesSheets0To3() {
        Refused.outside("sheet", Worlds::empty, 0, 3, BAD, SameWrong::lose);
        Refused.outside("sheet", Worlds::busy, 0, 3, BAD, SameWrong::lose);
    }

    static void promise31LoseNullOfALostSheet() {
        for (int s = 0; s <= 3; s++) {
            int lost = s;
            Refused.call("lose(" + s + ") at first", Worlds::empty, NULL, x -> x.lose(lost));
        }
        Refused.call("lost once", SheetBoundsTest::sheet0Lost, NULL, x -> x.lose(0));
    }

    static void promise31LoseOfNoItemsAndOfAll() {
        SameWrong x = new SameWrong();
        x.sheet(2, 1, 0);
        due("no items", x.lose(2), 0);
        x.sheet(2, 1, 48);
        due("all", x.lose(2), 48);
        due("again", x.lose(2), NULL);
    }

    static void promise31LoseMakesItLostForAllCalls() {
        Refused.Maker lost = SheetBoundsTest::sheet0Lost;
        Refused.call("put", lost, NULL, x -> x.put(0, 0, 0, 1));
        Refused.call("get", lost, LEAST, 1, x -> x.get(0, 0, 0));
        Refused.call("copy from", lost, NULL, x -> x.copy(0, 0, 1, 0, 1));
        Refused.call("copy to", lost, NULL, x -> x.copy(1, 0, 0, 0, 1));
        Refused.call("write", lost, NULL, x -> x.write(0, 0));
        Refused.call("read", lost, NULL, x -> x.read(0, 0, 8));
    }

    static void promise31LoseThenAnewIs0() {
        SameWrong x = numbered(0, 48);
        x.lose(0);
        x.sheet(0, 0, 48);
        for (int i = 0; i < 48; i++) {
            due("item " + i, x.get(0, 0, i), 0);
        }
    }

    // ---- promise 32: "Item i, treated as of a FORM, becomes v ..: 1. BAD; NULL; CAST; INDEX."

    static void promise32PutTakesSheets0To3() {
        Refused.outside("sheet", Worlds::busy, 0, 3, BAD, (x, s) -> x.put(s, 0, 0, 1));
        Refused.outside("sheet", Worlds::empty, 0, 3, BAD, (x, s) -> x.put(s, 0, 0, 1));
    }

    static void promise32PutTakesForms0To2() {
        for (int s = 0; s <= 3; s++) {
            int sheet = s;
            Refused.outside("form, sheet " + s, Worlds::busy, 0, 2, BAD, (x, form) -> x.put(sheet, form, 0, 1));
        }
    }

    static void promise32PutNullOfALostSheet() {
        for (int form = 0; form <= 2; form++) {
            int f = form;
            Refused.call("form " + f, Worlds::busy, NULL, x -> x.put(3, f, 0, 1));
            Refused.call("form " + f + ", no item", Worlds::busy, NULL, x -> x.put(3, f, -1, 1));
        }
    }

    /** "3 CAST: it has another FORM" */
    static void promise32PutCastOfAnotherForm() {
        for (int s = 0; s <= 2; s++) {
            for (int form = 0; form <= 2; form++) {
                if (s != form) {
                    int sheet = s, f = form;
                    Refused.call(s + " as " + f, Worlds::busy, CAST, x -> x.put(sheet, f, 0, 1));
                    Refused.call(s + " as " + f + ", no item", Worlds::busy, CAST, x -> x.put(sheet, f, -1, 1));
                    Refused.call(s + " as " + f + ", far", Worlds::busy, CAST, x -> x.put(sheet, f, 48, 1));
                }
            }
        }
    }

    /** "2 INDEX: there is no such item" */
    static void promise32PutIndexOfNoItem() {
        for (int s = 0; s <= 2; s++) {
            int sheet = s;
            Refused.outside("item", Worlds::busy, 0, 3 + s, INDEX, (x, i) -> x.put(sheet, sheet, i, 1));
            due("the first", Worlds.busy().put(s, s, 0, 1), 1);
            due("the last", Worlds.busy().put(s, s, 3 + s, 1), 1);
            Refused.outside("no items", () -> numbered(sheet, 0), 0, -1, INDEX, (x, i) -> x.put(0, sheet, i, 1));
            Refused.outside("48 items", () -> numbered(sheet, 48), 0, 47, INDEX, (x, i) -> x.put(0, sheet, i, 1));
        }
    }

    static void promise32PutRefusalsInTheirOrder() {
        Refused.call("BAD ahead of NULL", Worlds::busy, BAD, x -> x.put(3, 3, -1, 1));
        Refused.call("BAD ahead of CAST and INDEX", Worlds::busy, BAD, x -> x.put(0, -1, -1, 1));
        Refused.call("NULL ahead of INDEX", Worlds::busy, NULL, x -> x.put(3, 0, 48, 1));
        Refused.call("CAST ahead of INDEX", Worlds::busy, CAST, x -> x.put(0, 1, 4, 1));
    }

    /** "becomes v (the lowest bits that it has, with its sign ..)" */
    static void promise32PutKeepsTheLowestBits() {
        int[] values = {0, 1, -1, 127, 128, 129, 255, 256, 257, -127, -128, -129, -255, -256, -257, 32767, 32768,
            32769, 65535, 65536, 65537, -32767, -32768, -32769, -65535, -65536, -65537, GREATEST, GREATEST - 1,
            LEAST, LEAST + 1, 0x12345678, 0x12348080, 0x00ff7f80};
        for (int v : values) {
            int low = v & 255, lower = v & 65535;
            int[] want = {low > 127 ? low - 256 : low, lower > 32767 ? lower - 65536 : lower, v};
            for (int form = 0; form <= 2; form++) {
                SameWrong x = numbered(form, 3);
                due("put " + v, x.put(0, form, 1, v), 1);
                Check.alike(v + " as form " + form, items(x, 0, form, 3), row(1, want[form], 3));
                due("no finding", x.count(8), 0);
            }
        }
    }

    // ---- promise 33: "Item i of it. BAD: the least int; so are NULL, CAST, INDEX (count() 8 tells)."

    static void promise33GetBadIsNoFinding() {
        Refused.outside("sheet", Worlds::busy, 0, 3, LEAST, (x, s) -> x.get(s, 0, 0));
        Refused.outside("form", Worlds::busy, 0, 2, LEAST, (x, form) -> x.get(0, form, 0));
        Refused.outside("sheet", Worlds::empty, 0, 3, LEAST, (x, s) -> x.get(s, 0, 0));
        Refused.outside("form", Worlds::empty, 0, 2, LEAST, (x, form) -> x.get(0, form, 0));
    }

    static void promise33GetNullIsFinding1() {
        for (int s = 0; s <= 3; s++) {
            int sheet = s;
            Refused.call("lost " + s, Worlds::empty, LEAST, 1, x -> x.get(sheet, 0, 0));
        }
        Refused.call("ahead of INDEX", Worlds::busy, LEAST, 1, x -> x.get(3, 2, -1));
    }

    static void promise33GetCastIsFinding3() {
        for (int s = 0; s <= 2; s++) {
            for (int form = 0; form <= 2; form++) {
                if (s != form) {
                    int sheet = s, f = form;
                    Refused.call(s + " as " + f, Worlds::busy, LEAST, 3, x -> x.get(sheet, f, 0));
                    Refused.call(s + " as " + f + ", no item", Worlds::busy, LEAST, 3, x -> x.get(sheet, f, 48));
                }
            }
        }
    }

    static void promise33GetIndexIsFinding2() {
        for (int s = 0; s <= 2; s++) {
            int[] outside = {-1, -2, 4 + s, 5 + s, 48, 256, 65536, LEAST, LEAST + 1, GREATEST, GREATEST - 1};
            for (int at : outside) {
                int sheet = s;
                Refused.call("item " + at, Worlds::busy, LEAST, 2, x -> x.get(sheet, sheet, at));
                Refused.call("of none, item " + at, () -> numbered(sheet, 0), LEAST, 2, x -> x.get(0, sheet, at));
            }
            due("of none, item 0", numbered(s, 0).get(0, s, 0), LEAST);
            due("of 48, item 47", numbered(s, 48).get(0, s, 47), 48);
            due("of 48, item 48", numbered(s, 48).get(0, s, 48), LEAST);
        }
    }

    /** An int that is the least one is told, and is no finding. */
    static void promise33GetOfTheLeastInt() {
        SameWrong x = numbered(2, 1);
        x.put(0, 2, 0, LEAST);
        due("get", x.get(0, 2, 0), LEAST);
        due("no finding", x.count(8), 0);
    }

    static void promise33GetChangesNothing() {
        Refused.call("an item that is there", Worlds::busy, -8, x -> x.get(1, 1, 3));
    }

    // ---- promise 34: copy: "1. BAD: the SHEETS; NULL: s, t; STORE; INDEX .."

    /** Sheets 0 (five items) and 1 (three), both of the form; sheet 2 of another; sheet 3 lost. */
    private static SameWrong twoRows(int form) {
        SameWrong x = numbered(form, 5);
        x.sheet(1, form, 3);
        for (int i = 0; i < 3; i++) {
            x.put(1, form, i, 100 + i);
        }
        x.sheet(2, (form + 1) % 3, 5);
        return x;
    }

    private static SameWrong twoRows() {
        return twoRows(0);
    }

    static void promise34CopyTakesSheets0To3() {
        Refused.outside("s", SheetBoundsTest::twoRows, 0, 3, BAD, (x, s) -> x.copy(s, 0, 0, 0, 1));
        Refused.outside("t", SheetBoundsTest::twoRows, 0, 3, BAD, (x, t) -> x.copy(0, 0, t, 0, 1));
        Refused.outside("both", SheetBoundsTest::twoRows, 0, 3, BAD, (x, s) -> x.copy(s, 0, s, 0, 1));
        for (int t = 0; t <= 3; t++) {
            SameWrong x = numbered(1, 2);
            if (t > 0) {
                x.sheet(t, 1, 2);
            }
            due("0 to " + t, x.copy(0, 0, t, 0, 2), 1);
            due(t + " to 0", x.copy(t, 0, 0, 1, 1), 1);
            Check.alike("0 to " + t, items(x, 0, 1, 2), row(1, 1));
        }
    }

    static void promise34CopyNullOfEither() {
        Refused.call("s", SheetBoundsTest::twoRows, NULL, x -> x.copy(3, 0, 0, 0, 1));
        Refused.call("t", SheetBoundsTest::twoRows, NULL, x -> x.copy(0, 0, 3, 0, 1));
        Refused.call("both", SheetBoundsTest::twoRows, NULL, x -> x.copy(3, 0, 3, 0, 0));
        Refused.call("none of s", SheetBoundsTest::twoRows, NULL, x -> x.copy(3, 0, 0, 0, 0));
        Refused.call("none to t", SheetBoundsTest::twoRows, NULL, x -> x.copy(0, 0, 3, 0, 0));
    }

    /** "4 STORE: unlike FORMS", even of no items. */
    static void promise34CopyStoreOfUnlikeForms() {
        for (int s = 0; s <= 2; s++) {
            for (int t = 0; t <= 2; t++) {
                int from = s, to = t;
                if (s == t) {
                    due(s + " to itself", Worlds.busy().copy(s, 0, t, 1, 2), 1);
                } else {
                    Refused.call(s + " to " + t, Worlds::busy, STORE, x -> x.copy(from, 0, to, 0, 2));
                    Refused.call(s + " to " + t + ", none", Worlds::busy, STORE, x -> x.copy(from, 0, to, 0, 0));
                }
            }
        }
    }

    static void promise34CopyRefusalsInTheirOrder() {
        Refused.call("BAD ahead of NULL, s", SheetBoundsTest::twoRows, BAD, x -> x.copy(4, 0, 3, 0, 1));
        Refused.call("BAD ahead of NULL, t", SheetBoundsTest::twoRows, BAD, x -> x.copy(3, 0, -1, 0, 1));
        Refused.call("BAD ahead of INDEX", SheetBoundsTest::twoRows, BAD, x -> x.copy(0, -1, 4, -1, -1));
        Refused.call("NULL ahead of STORE, s", SheetBoundsTest::twoRows, NULL, x -> x.copy(3, 0, 2, 0, 1));
        Refused.call("NULL ahead of STORE, t", SheetBoundsTest::twoRows, NULL, x -> x.copy(2, 0, 3, 0, 1));
        Refused.call("NULL ahead of INDEX", SheetBoundsTest::twoRows, NULL, x -> x.copy(0, -1, 3, -1, -1));
        Refused.call("STORE ahead of INDEX", SheetBoundsTest::twoRows, STORE, x -> x.copy(0, -1, 2, -1, -1));
        Refused.call("STORE ahead of INDEX, far", SheetBoundsTest::twoRows, STORE, x -> x.copy(0, 0, 2, 0, 6));
    }

    /** "INDEX: i, j or n below 0" */
    static void promise34CopyIndexBelow0() {
        for (int below : new int[] {-1, -2, -5, LEAST, LEAST + 1, -GREATEST}) {
            for (int n = 0; n <= 1; n++) {
                int many = n;
                Refused.call("i " + below, SheetBoundsTest::twoRows, INDEX, x -> x.copy(0, below, 1, 0, many));
                Refused.call("j " + below, SheetBoundsTest::twoRows, INDEX, x -> x.copy(0, 0, 1, below, many));
            }
            Refused.call("n " + below, SheetBoundsTest::twoRows, INDEX, x -> x.copy(0, 0, 1, 0, below));
            Refused.call("n " + below + " at the end", SheetBoundsTest::twoRows, INDEX, x -> x.copy(0, 5, 1, 3, below));
        }
    }

    /** "not so many there (of n 0, too: i or j above the size)": all of i, j and n around the sizes 5 and 3. */
    static void promise34CopyIndexNotSoManyThere() {
        for (int i = 0; i <= 7; i++) {
            for (int j = 0; j <= 5; j++) {
                for (int n = 0; n <= 6; n++) {
                    int from = i, to = j, many = n;
                    String what = "copy " + n + " from " + i + " to " + j;
                    if (i + n <= 5 && j + n <= 3) {
                        SameWrong x = twoRows();
                        due(what, x.copy(0, i, 1, j, n), 1);
                        int[] want = {100, 101, 102};
                        for (int k = 0; k < n; k++) {
                            want[j + k] = i + k + 1;
                        }
                        Check.alike(what, items(x, 1, 0, 3), row(want));
                        Check.alike(what + ", s", items(x, 0, 0, 5), row(1, 2, 3, 4, 5));
                    } else {
                        Refused.call(what, SheetBoundsTest::twoRows, INDEX, x -> x.copy(0, from, 1, to, many));
                    }
                }
            }
        }
    }

    /** Sums that would wrap around. */
    static void promise34CopyIndexOfGreatNumbers() {
        int[] great = {GREATEST, GREATEST - 1, GREATEST - 2, 1 << 30, 65536, 256};
        for (int a : great) {
            Refused.call("i " + a, SheetBoundsTest::twoRows, INDEX, x -> x.copy(0, a, 1, 0, 2));
            Refused.call("j " + a, SheetBoundsTest::twoRows, INDEX, x -> x.copy(0, 0, 1, a, 2));
            Refused.call("n " + a, SheetBoundsTest::twoRows, INDEX, x -> x.copy(0, 1, 1, 1, a));
            Refused.call("i " + a + ", none", SheetBoundsTest::twoRows, INDEX, x -> x.copy(0, a, 1, 0, 0));
            Refused.call("j " + a + ", none", SheetBoundsTest::twoRows, INDEX, x -> x.copy(0, 0, 1, a, 0));
            for (int n : great) {
                Refused.call("all " + a + ", " + n, SheetBoundsTest::twoRows, INDEX, x -> x.copy(0, a, 1, a, n));
            }
        }
    }

    static void promise34CopyOfNoItems() {
        SameWrong x = twoRows();
        due("at the beginning", x.copy(0, 0, 1, 0, 0), 1);
        due("at both ends", x.copy(0, 5, 1, 3, 0), 1);
        due("behind the end of s", x.copy(0, 6, 1, 3, 0), INDEX);
        due("behind the end of t", x.copy(0, 5, 1, 4, 0), INDEX);
        x.sheet(2, 0, 0);
        due("of an empty one", x.copy(2, 0, 2, 0, 0), 1);
        due("one of an empty one", x.copy(2, 0, 0, 0, 1), INDEX);
        due("behind an empty one", x.copy(2, 1, 0, 0, 0), INDEX);
        Check.alike("t", items(x, 1, 0, 3), row(100, 101, 102));
    }

    /** "to SHEET t (perhaps s, as they were)" */
    static void promise34CopyOverItself() {
        for (int form = 0; form <= 2; form++) {
            for (int i = 0; i <= 5; i++) {
                for (int j = 0; j <= 5; j++) {
                    for (int n = 0; n <= 5 - Math.max(i, j); n++) {
                        SameWrong x = twoRows(form);
                        due("copy", x.copy(0, i, 0, j, n), 1);
                        int[] want = {1, 2, 3, 4, 5};
                        for (int k = 0; k < n; k++) {
                            want[j + k] = i + k + 1;
                        }
                        String what = "form " + form + ", " + n + " from " + i + " to " + j;
                        Check.alike(what, items(x, 0, form, 5), row(want));
                    }
                }
            }
        }
    }

    static void promise34CopyOf48() {
        SameWrong x = numbered(2, 48);
        x.sheet(3, 2, 48);
        due("all", x.copy(0, 0, 3, 0, 48), 1);
        for (int i = 0; i < 48; i++) {
            due("item " + i, x.get(3, 2, i), i + 1);
        }
        due("one more", x.copy(0, 0, 3, 0, 49), INDEX);
        due("onward over itself", x.copy(3, 0, 3, 1, 47), 1);
        due("the last", x.get(3, 2, 47), 47);
        due("one too far", x.copy(3, 0, 3, 1, 48), INDEX);
    }

    // ---- promise 35: ".. as many as there are items and QUESTIONS: how many. BAD; NULL."

    static void promise35WriteTakesPupilsThatAreThere() {
        Refused.outside("pupil", Worlds::busy, 0, 3, BAD, (x, p) -> x.write(p, 0));
        Refused.outside("pupil", Worlds::full, 0, 9, BAD, (x, p) -> x.write(p, 0));
        Refused.outside("pupil of none", Worlds::empty, 0, -1, BAD, (x, p) -> x.write(p, 0));
    }

    static void promise35WriteTakesSheets0To3() {
        Refused.outside("sheet", Worlds::busy, 0, 3, BAD, (x, s) -> x.write(0, s));
        for (int s = 0; s <= 3; s++) {
            SameWrong x = Worlds.busy();
            x.sheet(s, 0, 7);
            due("sheet " + s, x.write(3, s), 7);
            Check.alike("sheet " + s, items(x, s, 0, 7), row(1, 2, 3, 1, 5, 4, 4));
        }
    }

    static void promise35WriteNullOfALostSheet() {
        Refused.call("lost", Worlds::busy, NULL, x -> x.write(0, 3));
        Refused.call("lost once", SheetBoundsTest::sheet0Lost, NULL, x -> x.write(3, 0));
    }

    static void promise35WriteBadAheadOfNull() {
        Refused.call("pupil", Worlds::busy, BAD, x -> x.write(4, 3));
        Refused.call("pupil -1", Worlds::busy, BAD, x -> x.write(-1, 3));
        Refused.call("no pupils", Worlds::empty, BAD, x -> x.write(0, 0));
    }

    /** As many as the fewer of both, and the items behind stay as they are. */
    static void promise35WriteAsManyAsItemsAndQuestions() {
        for (int form = 0; form <= 2; form++) {
            for (int n : new int[] {1, 2, 7, 12}) {
                for (int size : new int[] {0, 1, 2, 6, 7, 8, 11, 12, 13, 48}) {
                    SameWrong x = numbered(form, size);
                    x.questions(n);
                    x.pupil(0, 0);
                    for (int q = 0; q < n; q++) {
                        x.answer(0, q, q % 6, 0);
                    }
                    int many = Math.min(n, size);
                    due(size + " items, " + n + " questions", x.write(0, 0), many);
                    int[] want = new int[size];
                    for (int i = 0; i < size; i++) {
                        want[i] = i < many ? i % 6 : i + 1;
                    }
                    Check.alike("items", items(x, 0, form, size), row(want));
                    due("no finding", x.count(8), 0);
                }
            }
        }
    }

    /** "ANSWERS": AS OF the TIME, and to QUESTIONS that there are. */
    static void promise35WriteAsOf() {
        SameWrong x = Check.test("111");
        Check.sits(x, 0, 0, "123");
        x.answer(0, 1, 5, 7);
        x.sheet(0, 0, 3);
        x.set(0, 6);
        x.write(0, 0);
        Check.alike("as of 6", items(x, 0, 0, 3), row(1, 2, 3));
        x.set(0, 7);
        x.questions(2);
        x.sheet(0, 0, 3);
        x.write(0, 0);
        Check.alike("as of 7, two questions", items(x, 0, 0, 3), row(1, 5, 0));
    }

    // ---- promise 36: "0 QUESTIONS .. 8 the number of the latest FINDING (0 before any). BAD."

    static void promise36CountTakes0To8() {
        Refused.outside("what", Worlds::empty, 0, 8, BAD, SameWrong::count);
        Refused.outside("what", Worlds::busy, 0, 8, BAD, SameWrong::count);
        Refused.outside("what", Worlds::full, 0, 8, BAD, SameWrong::count);
    }

    static void promise36CountOfQuestionsAndThoseNotStruck() {
        for (int n = 1; n <= 12; n++) {
            for (int struck = 0; struck <= n; struck++) {
                SameWrong x = Check.test("111111111111".substring(struck, n) + "????????????".substring(0, struck));
                due("questions", x.count(0), n);
                due(struck + " of " + n + " struck", x.count(1), n - struck);
            }
        }
    }

    static void promise36CountOfTheMostOfAll() {
        SameWrong x = Worlds.tenAlike("111111111111", "111111111111");
        due("pupils", x.count(2), 10);
        due("tellings", x.count(3), 120);
        due("answers", x.count(4), 120);
        due("marks", x.count(5), 120);
        due("rubbed out", x.count(7), 0);
        for (int q = 0; q < 12; q++) {
            x.answer(q % 10, q, 0, 1);
        }
        due("tellings", x.count(3), 132);
        due("answers", x.count(4), 108);
        due("marks", x.count(5), 108);
        due("rubbed out", x.count(7), 12);
        x.questions(1);
        due("answers to one", x.count(4), 9);
        due("marks with a fault", x.count(5), 0);
        due("tellings are all", x.count(3), 132);
    }

    static void promise36CountOfAllPairsThatAreOdd() {
        SameWrong x = Worlds.tenAlike("1", "2");
        due("by 50", x.count(6), 0);
        x.set(2, 1000);
        due("by 1000", x.count(6), 45);
        x.answer(9, 0, 1, 0);
        due("one less", x.count(6), 36);
        x.set(2, 0);
        due("by 0", x.count(6), 0);
    }

    /** It is the latest, and neither BAD, NOT, FULL nor what is taken makes it another. */
    static void promise36CountOfTheLatestFinding() {
        SameWrong x = Worlds.full();
        due("before any", x.count(8), 0);
        int[] found = {x.lose(3), x.count(8), x.put(0, 0, 48, 1), x.count(8), x.put(0, 1, 0, 1), x.count(8),
            x.copy(0, 0, 1, 0, 1), x.count(8), x.sheet(0, 0, -1), x.count(8)};
        int[] want = {NULL, 1, INDEX, 2, CAST, 3, STORE, 4, SIZE, 5};
        for (int i = 0; i < want.length; i++) {
            due("finding " + i, found[i], want[i]);
        }
        x.sheet(4, 0, -1);
        x.type('1');
        x.pupil(3, 3);
        x.answer(0, 0, 1, 14);
        x.from(0, 9);
        x.get(4, 0, 0);
        x.seats(1);
        x.chance(0, 0, 0);
        x.put(0, 0, 0, 1);
        x.count(9);
        x.sheet(3, 0, 0);
        due("still", x.count(8), 5);
        due("another", x.get(3, 0, 0), LEAST);
        due("now", x.count(8), 2);
    }

    // ---- promise 37: "h is 17; h becomes 31 h and each of ..; as longs that wrap"

    private static long digestByCalls(SameWrong x) {
        long h = 17;
        for (int what = 0; what <= 7; what++) {
            h = 31 * h + x.count(what);
        }
        h = 31 * h + x.fault();
        for (int p = 0; p < x.count(2); p++) {
            for (int what = 0; what <= 3; what++) {
                h = 31 * h + x.mark(p, what);
            }
            for (int what = 0; what <= 2; what++) {
                h = 31 * h + x.rubbed(p, what);
            }
        }
        h = 31 * (31 * (31 * h + x.seats(0)) + x.sources()) + x.chain();
        h = 31 * (31 * h + x.gains(1, 0)) + x.gains(1, 1);
        for (int q = 0; q < x.count(0); q++) {
            h = 31 * (31 * h + x.key(q)) + x.should(q);
            h = 31 * (31 * h + x.without(q, 0)) + x.without(q, 1);
            h = 31 * (31 * h + x.hard(q, 0)) + x.hard(q, 1);
            h = 31 * (31 * h + x.parts(q, 0)) + x.parts(q, 1);
        }
        return 31 * h + x.badly();
    }

    /** Of a new object by hand: refusals go in as they are told. */
    static void promise37DigestOfANewObject() {
        long h = 17;
        long[] first = {10, 0, 0, 0, 0, 0, 0, 0, 0, 0, 0, 0, 1, 1};
        long[] question = {0, NONE, 0, 0, Check.NOT_LONG, Check.NOT_LONG, Check.NOT_LONG, Check.NOT_LONG};
        for (long v : first) {
            h = 31 * h + v;
        }
        for (int q = 0; q < 10; q++) {
            for (long v : question) {
                h = 31 * h + v;
            }
        }
        due("digest", new SameWrong().digest(), 31 * h);
    }

    static void promise37DigestOfTheLeastAndTheMost() {
        SameWrong x = new SameWrong();
        x.questions(1);
        due("one question, no pupils", x.digest(), digestByCalls(x));
        x = Worlds.busy();
        due("busy", x.digest(), digestByCalls(x));
        x.set(2, 1000);
        x.set(0, 999);
        due("busy, all odd, all told", x.digest(), digestByCalls(x));
        x = Worlds.full();
        due("full", x.digest(), digestByCalls(x));
        x = Worlds.tenAlike("1?1111111111", "222222221111");
        x.set(2, 1000);
        due("ten alike", x.digest(), digestByCalls(x));
    }

    /** "gains(1) above, below": of PUPIL 0 alone, neither of no one nor of 0 and 1. */
    static void promise37DigestWithGainsOfTheFirst() {
        SameWrong x = Check.test("1111");
        x.pupil(0, 0);
        x.pupil(3, 4);
        for (String answers : new String[] {"2222", "1113"}) {
            Check.tells(x, 0, answers, 0);
            Check.tells(x, 1, answers, 0);
        }
        // of eight six are gains, four are drawn, three or more: (20 * 2 + 15) of 70
        due("gains above", x.gains(1, 0), 11);
        due("gains below", x.gains(1, 1), 14);
        due("digest", x.digest(), digestByCalls(x));
    }

    /** "gains(1) above, below (as it is told)": FULL, too. */
    static void promise37DigestWithFullGains() {
        SameWrong x = Check.test("1");
        x.pupil(0, 0);
        for (int i = 0; i <= 60; i++) {
            x.answer(0, 0, 1 + i % 2, 0);
        }
        due("sixty", x.digest(), digestByCalls(x));
        x.answer(0, 0, 4, 0);
        due("gains", x.gains(1, 0), Check.FULL_LONG);
        due("sixty-one", x.digest(), digestByCalls(x));
    }

    /** Neither SHEETS nor count() 8 are in it; it changes nothing. */
    static void promise37DigestLeavesAllAsItIs() {
        Refused.call("digest", Worlds::busy, Worlds.busy().digest(), SameWrong::digest);
        SameWrong x = Worlds.busy();
        long before = x.digest();
        x.lose(0);
        x.lose(0);
        x.put(1, 1, 0, 99);
        due("sheets and findings", x.digest(), before);
    }
}
