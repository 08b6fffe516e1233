import java.util.function.Supplier;

/** The edges that the document names in promises 25 to 29: sheet, put, item, copy, load. */
public final class EdgeHostTest {
    private static final int MOST = Integer.MAX_VALUE;
    private static final int LEAST = Integer.MIN_VALUE;
    private static final Check check = new Check();

    public static void main(String[] args) {
        sheetNumbers();
        sheetSizes();
        sheetInOrder();
        sheetOfNone();
        sheetMissing();
        sheetAnew();
        sheetRefusedChangesNothing();
        putNumbers();
        putInOrder();
        putCuts();
        putRefusedChangesNothing();
        itemOfNone();
        itemMissingAgain();
        copyNumbers();
        copyOfAll();
        copyOfNone();
        copyInOrder();
        copyOutside();
        copyOverItself();
        copyKeepsWhatWasCut();
        copyRefusedChangesNothing();
        loadNumbers();
        loadInOrder();
        loadOfAnotherSort();
        loadOfMissing();
        loadEight();
        loadOutside();
        loadOutsideBehindSome();
        loadLeavesOutWhatIsRefused();
        loadOfNone();
        loadOfCutNumbers();
        loadRefusedChangesNothing();
        check.close();
    }

    /** Sheet 0 five ints, 1 four shorts, 2 three bytes, 3 missing. */
    private static ValuesGo some() {
        ValuesGo x = check.with("a<b");
        Check.show(x, 0, 0, 1, 2, 3, 4, 5);
        Check.show(x, 1, 1, 11, 12, 13, 14);
        Check.show(x, 2, 2, 21, 22, 23);
        return x;
    }

    private static void itemsAre(ValuesGo x, int sheet, int... due) {
        for (int i = 0; i < due.length; i++) {
            check.due("item(" + sheet + ", " + i + ")", x.item(sheet, i), due[i]);
        }
        check.due("item(" + sheet + ", " + due.length + ")", x.item(sheet, due.length), -99999);
    }

    // ---- promise 25

    private static void sheetNumbers() {
        check.says(25, "BAD: no such SHEET, sort; n above 40; -14.");
        ValuesGo x = new ValuesGo();
        int[] sheets = {-1, 4, MOST, LEAST};
        for (int sheet : sheets) {
            check.due("sheet(" + sheet + ", 0, 1)", x.sheet(sheet, 0, 1), ValuesGo.BAD);
            check.due("sheet(" + sheet + ", -1, 0)", x.sheet(sheet, -1, 0), ValuesGo.BAD);
        }
        int[] sorts = {-2, 3, MOST, LEAST};
        for (int sort : sorts) {
            check.due("sheet(0, " + sort + ", 1)", x.sheet(0, sort, 1), ValuesGo.BAD);
        }
        for (int sheet = 0; sheet < 4; sheet++) {
            check.due("item(" + sheet + ", 0)", x.item(sheet, 0), -99999);
            for (int sort = -1; sort < 3; sort++) {
                check.due("sheet(" + sheet + ", " + sort + ", 1)", x.sheet(sheet, sort, 1), 1);
                check.due("item(" + sheet + ", 0)", x.item(sheet, 0), sort < 0 ? -99999 : 0);
            }
        }
    }

    private static void sheetSizes() {
        check.says(25, "n above 40; -14.");
        for (int sort = 0; sort < 3; sort++) {
            ValuesGo x = new ValuesGo();
            check.due("sheet(0, " + sort + ", 41)", x.sheet(0, sort, 41), ValuesGo.BAD);
            check.due("sheet(0, " + sort + ", most)", x.sheet(0, sort, MOST), ValuesGo.BAD);
            check.due("sheet(0, " + sort + ", -1)", x.sheet(0, sort, -1), -14);
            check.due("sheet(0, " + sort + ", least)", x.sheet(0, sort, LEAST), -14);
            check.due("put(0, 0, 0): it is missing still", x.put(0, 0, 0), -11);
            check.due("sheet(0, " + sort + ", 40)", x.sheet(0, sort, 40), 1);
            check.due("put(0, 39, 1)", x.put(0, 39, 1), 1);
            check.due("put(0, 40, 1)", x.put(0, 40, 1), -12);
            check.due("sheet(0, " + sort + ", 1)", x.sheet(0, sort, 1), 1);
            check.due("put(0, 0, 1)", x.put(0, 0, 1), 1);
            check.due("put(0, 1, 1)", x.put(0, 1, 1), -12);
        }
    }

    private static void sheetInOrder() {
        check.says(25, "BAD: no such SHEET, sort; n above 40; -14.");
        ValuesGo x = new ValuesGo();
        check.due("a SHEET ahead of a size", x.sheet(4, 0, -1), ValuesGo.BAD);
        check.due("a SHEET ahead of a size", x.sheet(-1, 0, -1), ValuesGo.BAD);
        check.due("a sort ahead of a size", x.sheet(0, 3, -1), ValuesGo.BAD);
        check.due("a sort ahead of a size", x.sheet(0, -2, -1), ValuesGo.BAD);
        check.due("a size", x.sheet(0, 2, -1), -14);
    }

    private static void sheetOfNone() {
        check.says(25, "A SHEET becomes a row of n of a sort, all 0,");
        ValuesGo x = new ValuesGo();
        for (int sort = 0; sort < 3; sort++) {
            check.due("sheet(0, " + sort + ", 0)", x.sheet(0, sort, 0), 1);
            check.due("item(0, 0)", x.item(0, 0), -99999);
            check.due("put(0, 0, 1): it is there", x.put(0, 0, 1), -12);
            check.due("copy(0, 0, 0, 0, 0)", x.copy(0, 0, 0, 0, 0), 0);
            check.due("copy(0, 0, 0, 0, 1)", x.copy(0, 0, 0, 0, 1), -12);
            check.due("load(0, " + sort + ", 0, 0)", x.load(0, sort, 0, 0), 0);
            check.due("load(0, " + sort + ", 0, 1)", x.load(0, sort, 0, 1), -12);
            check.due("tells(0, 0)", x.tells(0, 0), ValuesGo.BAD);
        }
    }

    private static void sheetMissing() {
        check.says(25, "or missing (sort -1: n does not matter): 1.");
        int[] any = {-1, 0, 40, 41, MOST, LEAST};
        for (int n : any) {
            ValuesGo x = some();
            check.due("sheet(0, -1, " + n + ")", x.sheet(0, -1, n), 1);
            check.due("item(0, 0)", x.item(0, 0), -99999);
            check.due("put(0, 0, 1)", x.put(0, 0, 1), -11);
            check.due("sheet(3, -1, " + n + "), missing already", x.sheet(3, -1, n), 1);
            check.due("item(1, 0)", x.item(1, 0), 11);
        }
    }

    private static void sheetAnew() {
        check.says(25, "all 0,");
        ValuesGo x = some();
        check.due("sheet(0, 0, 5)", x.sheet(0, 0, 5), 1);
        itemsAre(x, 0, 0, 0, 0, 0, 0);
        x.put(0, 4, 9);
        check.due("sheet(0, 2, 2)", x.sheet(0, 2, 2), 1);
        itemsAre(x, 0, 0, 0);
        check.due("sheet(0, 1, 6)", x.sheet(0, 1, 6), 1);
        itemsAre(x, 0, 0, 0, 0, 0, 0, 0);
        x.put(0, 5, 9);
        x.sheet(0, -1, 0);
        check.due("sheet(0, 0, 6)", x.sheet(0, 0, 6), 1);
        itemsAre(x, 0, 0, 0, 0, 0, 0, 0);
        itemsAre(x, 1, 11, 12, 13, 14);
    }

    private static void sheetRefusedChangesNothing() {
        check.says(0, "-14 a size below 0.");
        check.changesNothing("sheet(0, 0, -1)", EdgeHostTest::some, x -> x.sheet(0, 0, -1), -14);
        check.changesNothing("sheet(0, 0, 41)", EdgeHostTest::some, x -> x.sheet(0, 0, 41), ValuesGo.BAD);
        check.changesNothing("sheet(0, 3, 1)", EdgeHostTest::some, x -> x.sheet(0, 3, 1), ValuesGo.BAD);
        check.changesNothing("sheet(4, 0, 1)", EdgeHostTest::some, x -> x.sheet(4, 0, 1), ValuesGo.BAD);
    }

    // ---- promises 26 and 27

    private static void putNumbers() {
        check.says(26, "BAD: no such SHEET; -11; -12.");
        ValuesGo x = some();
        int[] sheets = {-1, 4, MOST, LEAST};
        for (int sheet : sheets) {
            check.due("put(" + sheet + ", 0, 0)", x.put(sheet, 0, 0), ValuesGo.BAD);
        }
        int[] size = {5, 4, 3};
        for (int sheet = 0; sheet < 3; sheet++) {
            int[] outside = {-1, size[sheet], 39, 40, MOST, LEAST};
            for (int i : outside) {
                check.due("put(" + sheet + ", " + i + ", 0)", x.put(sheet, i, 0), -12);
                check.due("put(3, " + i + ", 0)", x.put(3, i, 0), -11);
            }
            check.due("put(" + sheet + ", 0, 7)", x.put(sheet, 0, 7), 1);
            check.due("put() of the last", x.put(sheet, size[sheet] - 1, 8), 1);
            check.due("item(" + sheet + ", 0)", x.item(sheet, 0), 7);
            check.due("item() of the last", x.item(sheet, size[sheet] - 1), 8);
        }
    }

    private static void putInOrder() {
        check.says(26, "BAD: no such SHEET; -11; -12.");
        ValuesGo x = some();
        check.due("a SHEET ahead of an item", x.put(4, -1, 0), ValuesGo.BAD);
        check.due("missing ahead of an item", x.put(3, -1, 0), -11);
        check.due("an item", x.put(2, -1, 0), -12);
    }

    private static void putCuts() {
        check.says(26, "Item i of a SHEET becomes v (of shorts, bytes its lowest 16, 8 bits): 1.");
        int[][] due = {
            {127, 127, 127}, {128, 128, -128}, {129, 129, -127}, {255, 255, -1}, {256, 256, 0}, {-128, -128, -128},
            {-129, -129, 127}, {-256, -256, 0}, {32767, 32767, -1}, {32768, -32768, 0}, {65535, -1, -1}, {65536, 0, 0},
            {-32768, -32768, 0}, {-32769, 32767, -1}, {-65536, 0, 0}, {MOST, -1, -1}, {LEAST, 0, 0}, {MOST - 128, -129, 127}
        };
        ValuesGo x = some();
        for (int[] d : due) {
            for (int sheet = 0; sheet < 3; sheet++) {
                check.due("put(" + sheet + ", 1, " + d[0] + ")", x.put(sheet, 1, d[0]), 1);
                check.due("item(" + sheet + ", 1) behind it", x.item(sheet, 1), d[sheet]);
            }
        }
        itemsAre(x, 0, 1, MOST - 128, 3, 4, 5);
        itemsAre(x, 2, 21, 127, 23);
    }

    private static void putRefusedChangesNothing() {
        check.says(0, "they change nothing:");
        check.changesNothing("put(4, 0, 9)", EdgeHostTest::some, x -> x.put(4, 0, 9), ValuesGo.BAD);
        check.changesNothing("put(3, 0, 9)", EdgeHostTest::some, x -> x.put(3, 0, 9), -11);
        check.changesNothing("put(0, 5, 9)", EdgeHostTest::some, x -> x.put(0, 5, 9), -12);
        check.changesNothing("put(0, -1, 9)", EdgeHostTest::some, x -> x.put(0, -1, 9), -12);
        check.changesNothing("item(0, 5)", EdgeHostTest::some, x -> x.item(0, 5), -99999);
    }

    private static void itemOfNone() {
        check.says(27, "-99999: no such SHEET, it is missing, no such item.");
        ValuesGo x = some();
        int[] sheets = {-1, 4, MOST, LEAST};
        for (int sheet : sheets) {
            check.due("item(" + sheet + ", 0)", x.item(sheet, 0), -99999);
        }
        int[] size = {5, 4, 3, 0};
        for (int sheet = 0; sheet < 4; sheet++) {
            int[] outside = {-1, size[sheet], 39, 40, MOST, LEAST};
            for (int i : outside) {
                check.due("item(" + sheet + ", " + i + ")", x.item(sheet, i), -99999);
            }
        }
        check.due("item(0, 4)", x.item(0, 4), 5);
        x.put(0, 4, -99999);
        check.due("item(0, 4), which may be so, too", x.item(0, 4), -99999);
    }

    private static void itemMissingAgain() {
        check.says(27, "it is missing,");
        ValuesGo x = some();
        x.sheet(0, -1, 5);
        for (int i = -1; i < 6; i++) {
            check.due("item(0, " + i + ")", x.item(0, i), -99999);
        }
    }

    // ---- promise 28

    private static void copyNumbers() {
        check.says(28, "BAD: no such SHEET;");
        ValuesGo x = some();
        int[] sheets = {-1, 4, MOST, LEAST};
        for (int sheet : sheets) {
            check.due("copy(" + sheet + ", 0, 0, 0, 1)", x.copy(sheet, 0, 0, 0, 1), ValuesGo.BAD);
            check.due("copy(0, 0, " + sheet + ", 0, 1)", x.copy(0, 0, sheet, 0, 1), ValuesGo.BAD);
        }
        check.due("copy(3, 0, 0, 0, 1)", x.copy(3, 0, 0, 0, 1), -11);
        check.due("copy(0, 0, 3, 0, 1)", x.copy(0, 0, 3, 0, 1), -11);
        check.due("copy(3, 0, 3, 0, 1)", x.copy(3, 0, 3, 0, 1), -11);
        for (int one = 0; one < 3; one++) {
            for (int other = 0; other < 3; other++) {
                check.due("copy(" + one + ", 0, " + other + ", 0, 1)", x.copy(one, 0, other, 0, 1), one == other ? 1 : -13);
            }
        }
    }

    private static void copyOfAll() {
        check.says(28, "n numbers of a SHEET, from item i on, come to another one's item j on (as they were): n.");
        ValuesGo x = new ValuesGo();
        x.sheet(0, 0, 40);
        x.sheet(3, 0, 40);
        for (int i = 0; i < 40; i++) {
            x.put(0, i, i * 1000 + 1);
        }
        check.due("copy(0, 0, 3, 0, 40)", x.copy(0, 0, 3, 0, 40), 40);
        for (int i = 0; i < 40; i++) {
            check.due("item(3, " + i + ")", x.item(3, i), i * 1000 + 1);
        }
        check.due("copy(0, 0, 3, 0, 41)", x.copy(0, 0, 3, 0, 41), -12);
        check.due("copy(0, 39, 3, 0, 1)", x.copy(0, 39, 3, 0, 1), 1);
        check.due("item(3, 0)", x.item(3, 0), 39001);
        check.due("copy(0, 0, 3, 39, 1)", x.copy(0, 0, 3, 39, 1), 1);
        check.due("item(3, 39)", x.item(3, 39), 1);
    }

    private static void copyOfNone() {
        check.says(28, "-12 (also with n below 0).");
        ValuesGo x = some();
        x.sheet(3, 0, 2);
        check.due("copy(0, 0, 3, 0, 0)", x.copy(0, 0, 3, 0, 0), 0);
        check.due("copy(0, 5, 3, 2, 0)", x.copy(0, 5, 3, 2, 0), 0);
        check.due("copy(0, 6, 3, 0, 0)", x.copy(0, 6, 3, 0, 0), -12);
        check.due("copy(0, 0, 3, 3, 0)", x.copy(0, 0, 3, 3, 0), -12);
        check.due("copy(0, -1, 3, 0, 0)", x.copy(0, -1, 3, 0, 0), -12);
        check.due("copy(0, 0, 3, -1, 0)", x.copy(0, 0, 3, -1, 0), -12);
        check.due("copy(0, 0, 3, 0, -1)", x.copy(0, 0, 3, 0, -1), -12);
        check.due("copy(0, 0, 3, 0, least)", x.copy(0, 0, 3, 0, LEAST), -12);
        itemsAre(x, 3, 0, 0);
    }

    private static void copyInOrder() {
        check.says(28, "BAD: no such SHEET; -11; -13: they are of unlike sorts; -12 (also with n below 0).");
        ValuesGo x = some();
        check.due("a SHEET ahead of one that is missing", x.copy(3, 0, 4, 0, 1), ValuesGo.BAD);
        check.due("a SHEET ahead of one that is missing", x.copy(4, 0, 3, 0, 1), ValuesGo.BAD);
        check.due("a SHEET ahead of a place", x.copy(0, -1, 4, 0, -1), ValuesGo.BAD);
        check.due("missing ahead of a place", x.copy(3, -1, 0, 0, 1), -11);
        check.due("missing ahead of n", x.copy(0, 0, 3, 0, -1), -11);
        check.due("missing ahead of n", x.copy(3, 0, 3, 0, -1), -11);
        check.due("sorts ahead of a place", x.copy(0, -1, 1, 0, 1), -13);
        check.due("sorts ahead of n", x.copy(0, 0, 2, 0, -1), -13);
        check.due("sorts with n 0", x.copy(1, 0, 2, 0, 0), -13);
        check.due("a place", x.copy(0, -1, 0, 0, 1), -12);
    }

    private static void copyOutside() {
        check.says(0, "-12 a place outside,");
        ValuesGo x = some();
        x.sheet(3, 0, 4);
        int[][] outside = {{0, 0, 5}, {2, 0, 4}, {0, 1, 4}, {5, 0, 1}, {0, 4, 1}, {-1, 0, 1}, {0, -1, 1}, {MOST, 0, 1},
            {0, MOST, 1}, {LEAST, 0, 1}, {0, LEAST, 1}, {0, 0, MOST}, {1, 1, MOST}, {MOST, MOST, MOST}, {LEAST, LEAST, LEAST}};
        for (int[] o : outside) {
            check.due("copy(0, " + o[0] + ", 3, " + o[1] + ", " + o[2] + ")", x.copy(0, o[0], 3, o[1], o[2]), -12);
        }
        itemsAre(x, 3, 0, 0, 0, 0);
        check.due("copy(0, 1, 3, 0, 4): the last that may be", x.copy(0, 1, 3, 0, 4), 4);
        check.due("copy(0, 0, 3, 3, 1): the last that may be", x.copy(0, 0, 3, 3, 1), 1);
        itemsAre(x, 3, 2, 3, 4, 1);
    }

    private static void copyOverItself() {
        check.says(28, "(as they were)");
        for (int sort = 0; sort < 3; sort++) {
            ValuesGo x = new ValuesGo();
            Check.show(x, 1, sort, 1, 2, 3, 4, 5);
            check.due("copy(1, 0, 1, 1, 4)", x.copy(1, 0, 1, 1, 4), 4);
            itemsAre(x, 1, 1, 1, 2, 3, 4);
            check.due("copy(1, 1, 1, 0, 4)", x.copy(1, 1, 1, 0, 4), 4);
            itemsAre(x, 1, 1, 2, 3, 4, 4);
            check.due("copy(1, 0, 1, 0, 5)", x.copy(1, 0, 1, 0, 5), 5);
            itemsAre(x, 1, 1, 2, 3, 4, 4);
        }
    }

    private static void copyKeepsWhatWasCut() {
        check.says(28, "(as they were)");
        int[][] due = {{MOST, LEAST}, {32767, -32768}, {127, -128}};
        for (int sort = 0; sort < 3; sort++) {
            ValuesGo x = new ValuesGo();
            Check.show(x, 0, sort, due[sort]);
            x.sheet(1, sort, 2);
            check.due("copy(0, 0, 1, 0, 2)", x.copy(0, 0, 1, 0, 2), 2);
            itemsAre(x, 1, due[sort]);
            x.put(0, 0, 5);
            itemsAre(x, 1, due[sort]);
        }
    }

    private static void copyRefusedChangesNothing() {
        check.says(0, "they change nothing:");
        check.changesNothing("copy(0, 0, 4, 0, 1)", EdgeHostTest::some, x -> x.copy(0, 0, 4, 0, 1), ValuesGo.BAD);
        check.changesNothing("copy(0, 0, 3, 0, 1)", EdgeHostTest::some, x -> x.copy(0, 0, 3, 0, 1), -11);
        check.changesNothing("copy(0, 0, 1, 0, 1)", EdgeHostTest::some, x -> x.copy(0, 0, 1, 0, 1), -13);
        check.changesNothing("copy(0, 0, 0, 2, 4)", EdgeHostTest::some, x -> x.copy(0, 0, 0, 2, 4), -12);
        check.changesNothing("copy(0, 2, 0, 0, 4)", EdgeHostTest::some, x -> x.copy(0, 2, 0, 0, 4), -12);
        check.changesNothing("copy(0, 1, 0, 0, 0)", EdgeHostTest::some, x -> x.copy(0, 1, 0, 0, 0), 0);
    }

    // ---- promise 29

    private static ValuesGo sheetOf(int sort, int... items) {
        ValuesGo x = new ValuesGo();
        Check.show(x, 0, sort, items);
        return x;
    }

    private static void loadNumbers() {
        check.says(29, "BAD: no such SHEET, sort, n;");
        ValuesGo x = sheetOf(0, 0, 1, 1, 1);
        int[] sheets = {-1, 4, MOST, LEAST};
        for (int sheet : sheets) {
            check.due("load(" + sheet + ", 0, 0, 1)", x.load(sheet, 0, 0, 1), ValuesGo.BAD);
        }
        int[] sorts = {-1, 3, MOST, LEAST};
        for (int sort : sorts) {
            check.due("load(0, " + sort + ", 0, 1)", x.load(0, sort, 0, 1), ValuesGo.BAD);
            check.due("load(3, " + sort + ", 0, 1), missing", x.load(3, sort, 0, 1), ValuesGo.BAD);
        }
        int[] many = {-1, 9, MOST, LEAST};
        for (int n : many) {
            check.due("load(0, 0, 0, " + n + ")", x.load(0, 0, 0, n), ValuesGo.BAD);
        }
        check.due("count(2)", x.count(2), 0);
        check.due("load(0, 0, 0, 2)", x.load(0, 0, 0, 2), 2);
    }

    private static void loadInOrder() {
        check.says(29, "BAD: no such SHEET, sort, n; -13; -11; -12: what stood ahead was.");
        ValuesGo x = sheetOf(1, 0, 1);
        check.due("n ahead of a sort", x.load(0, 0, 0, 9), ValuesGo.BAD);
        check.due("n ahead of missing", x.load(3, 0, 0, -1), ValuesGo.BAD);
        check.due("a sort ahead of a place", x.load(0, 0, -1, 1), -13);
        check.due("a sort ahead of a place", x.load(0, 2, 5, 1), -13);
        check.due("missing ahead of a place", x.load(3, 0, -1, 1), -11);
        check.due("a place", x.load(0, 1, -1, 1), -12);
        check.due("count(2)", x.count(2), 0);
    }

    private static void loadOfAnotherSort() {
        check.says(29, "by a SHEET that is taken for one of a sort:");
        for (int sort = 0; sort < 3; sort++) {
            for (int other = 0; other < 3; other++) {
                ValuesGo x = sheetOf(sort, 0, 1);
                check.due("sort " + sort + ": load(0, " + other + ", 0, 1)", x.load(0, other, 0, 1), sort == other ? 1 : -13);
                check.due("load(0, " + other + ", 0, 0)", x.load(0, other, 0, 0), sort == other ? 0 : -13);
                check.due("count(2)", x.count(2), sort == other ? 1 : 0);
            }
        }
    }

    private static void loadOfMissing() {
        check.says(0, "-11 nothing where something is asked,");
        ValuesGo x = sheetOf(0, 0, 1);
        x.sheet(0, -1, 0);
        for (int sort = 0; sort < 3; sort++) {
            check.due("load(0, " + sort + ", 0, 1), missing again", x.load(0, sort, 0, 1), -11);
            check.due("load(3, " + sort + ", 0, 1), missing at first", x.load(3, sort, 0, 1), -11);
            check.due("load(3, " + sort + ", 0, 8)", x.load(3, sort, 0, 8), -11);
        }
    }

    private static void loadEight() {
        check.says(29, "from one on, two by two (as of tell()), n of them (0 .. 8): how many were TOLD");
        int[] items = new int[40];
        for (int i = 0; i < 20; i++) {
            items[2 * i] = i % 8;
            items[2 * i + 1] = 1 << i % 10;
        }
        ValuesGo x = sheetOf(1, items);
        check.due("load(0, 1, 0, 8)", x.load(0, 1, 0, 8), 8);
        for (int v = 0; v < 8; v++) {
            check.due("domain(" + v + ")", x.domain(v), 1 << v);
        }
        ValuesGo y = sheetOf(0, items);
        check.due("load(0, 0, 24, 8): to the last item", y.load(0, 0, 24, 8), 8);
        check.due("decision(7, 0)", y.decision(7, 0), 3);
        check.due("decision(7, 1)", y.decision(7, 1), 512);
        ValuesGo z = sheetOf(0, items);
        check.due("load(0, 0, 38, 1): the last two", z.load(0, 0, 38, 1), 1);
        check.due("domain(3)", z.domain(3), 512);
        check.due("load(0, 0, 1, 1): a set ahead of a VARIABLE", z.load(0, 0, 1, 1), 1);
        check.due("domain(1)", z.domain(1), 1);
    }

    private static void loadOutside() {
        check.says(29, "-12: what stood ahead was.");
        ValuesGo x = sheetOf(0, 0, 1, 1, 1, 2);
        int[] outside = {-1, -2, 4, 5, 6, 39, 40, MOST, MOST - 1, MOST - 15, LEAST, LEAST + 1};
        for (int from : outside) {
            check.due("load(0, 0, " + from + ", 1)", x.load(0, 0, from, 1), -12);
            check.due("load(0, 0, " + from + ", 8)", x.load(0, 0, from, 8), -12);
        }
        check.due("count(2)", x.count(2), 0);
        check.due("load(0, 0, 2, 1): the last that may be", x.load(0, 0, 2, 1), 1);
    }

    private static void loadOutsideBehindSome() {
        check.says(29, "-12: what stood ahead was.");
        ValuesGo x = sheetOf(2, 0, 1, 1, 3, 2);
        check.due("load(0, 2, 0, 3): of the third only the VARIABLE", x.load(0, 2, 0, 3), -12);
        check.due("count(2)", x.count(2), 2);
        check.due("domain(0)", x.domain(0), 1);
        check.due("domain(1)", x.domain(1), 3);
        check.due("domain(2)", x.domain(2), 1023);
        ValuesGo y = sheetOf(0, 0, 1, 8, 1, 1, 3);
        check.due("load(0, 0, 0, 4): the second is left out", y.load(0, 0, 0, 4), -12);
        check.due("count(2)", y.count(2), 2);
        ValuesGo z = sheetOf(0, 0, 0, 1, 1);
        check.due("load(0, 0, 0, 3): failed by the first", z.load(0, 0, 0, 3), -12);
        check.due("count(2)", z.count(2), 1);
    }

    private static void loadLeavesOutWhatIsRefused() {
        check.says(29, "how many were TOLD (others are left out).");
        ValuesGo x = sheetOf(0, -1, 1, 8, 1, 0, -1, 0, 1024, MOST, LEAST, 7, 1023);
        check.due("one of six", x.load(0, 0, 0, 6), 1);
        check.due("decision(0, 0)", x.decision(0, 0), 7);
        ValuesGo y = sheetOf(0, 1, 0, 2, 1);
        check.due("behind what fails", y.load(0, 0, 0, 2), 1);
        check.due("where all is failed", y.load(0, 0, 0, 2), 0);
        ValuesGo z = sheetOf(0, 7, 1023, 7, 1023, 7, 1023, 7, 1023, 7, 1023, 7, 1023, 7, 1023, 0, 1);
        check.due("eight", z.load(0, 0, 0, 8), 8);
        check.due("four of eight, as 12 are there then", z.load(0, 0, 0, 8), 4);
        check.due("none of eight", z.load(0, 0, 0, 8), 0);
        check.due("count(2)", z.count(2), 12);
    }

    private static void loadOfNone() {
        check.says(29, "n of them (0 .. 8)");
        ValuesGo x = sheetOf(0, 0, 1);
        int[] any = {0, 1, 2, 40, -1, MOST, LEAST};
        for (int from : any) {
            check.due("load(0, 0, " + from + ", 0): none is asked", x.load(0, 0, from, 0), 0);
        }
        check.due("count(2)", x.count(2), 0);
    }

    private static void loadOfCutNumbers() {
        check.says(26, "(of shorts, bytes its lowest 16, 8 bits)");
        ValuesGo x = sheetOf(2, 0, 255, 0, 127, 0, 256, 1, 128);
        check.due("bytes: -1, 127, 0, -128", x.load(0, 2, 0, 2), 1);
        check.due("domain(0)", x.domain(0), 127);
        ValuesGo y = sheetOf(1, 65536, 65536 + 7, 1, 1023, 2, 1024);
        check.due("shorts: 0 and 7, 1 and 1023, 2 and 1024", y.load(0, 1, 0, 3), 2);
        check.due("domain(0)", y.domain(0), 7);
    }

    private static void loadRefusedChangesNothing() {
        check.says(0, "-13 a thing of another sort or KIND,");
        Supplier<ValuesGo> made = () -> {
            ValuesGo x = some();
            x.run();
            Check.show(x, 0, 0, 0, 7, 1, 30);
            return x;
        };
        check.changesNothing("load(0, 0, 0, 9)", made, x -> x.load(0, 0, 0, 9), ValuesGo.BAD);
        check.changesNothing("load(0, 1, 0, 2)", made, x -> x.load(0, 1, 0, 2), -13);
        check.changesNothing("load(3, 0, 0, 2)", made, x -> x.load(3, 0, 0, 2), -11);
        check.changesNothing("load(0, 0, 3, 2)", made, x -> x.load(0, 0, 3, 2), -12);
        check.changesNothing("load(0, 0, 0, 0)", made, x -> x.load(0, 0, 0, 0), 0);
        check.changesNothing("load(1, 1, 0, 2), of which none is told", made, x -> x.load(1, 1, 0, 2), 0);
    }
}
