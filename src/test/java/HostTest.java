/** Promises 25 to 29: sheet, put, item, copy, load. */
public final class HostTest {
    private static final Check check = new Check();
    private static final int MOST = Integer.MAX_VALUE;
    private static final int LEAST = Integer.MIN_VALUE;

    public static void main(String[] args) {
        sheet();
        put();
        item();
        copy();
        copyWithinOne();
        copyRefusals();
        load();
        loadLeavesOut();
        loadRefusals();
        loadOutside();
        check.close();
    }

    private static void sheet() {
        ValuesGo x = new ValuesGo();
        for (int sort = 0; sort < 3; sort++) {
            check.due("sheet(0, " + sort + ", 40)", x.sheet(0, sort, 40), 1);
            check.due("item(0, 39)", x.item(0, 39), 0);
            check.due("item(0, 40)", x.item(0, 40), -99999);
            x.put(0, 39, 7);
        }
        check.due("sheet(0, 0, 3)", x.sheet(0, 0, 3), 1);
        x.put(0, 2, 7);
        check.due("sheet(0, 0, 40)", x.sheet(0, 0, 40), 1);
        check.due("all are 0", x.item(0, 2), 0);
        check.due("all are 0", x.item(0, 39), 0);
        check.due("sheet(3, 2, 0)", x.sheet(3, 2, 0), 1);
        check.due("a row of none is there", x.put(3, 0, 1), -12);
        check.due("sheet(3, -1, 99)", x.sheet(3, -1, 99), 1);
        check.due("it is missing", x.put(3, 0, 1), -11);
        check.due("sheet(3, -1, -99)", x.sheet(3, -1, -99), 1);
        check.due("sheet(-1, 0, 1)", x.sheet(-1, 0, 1), ValuesGo.BAD);
        check.due("sheet(4, 0, 1)", x.sheet(4, 0, 1), ValuesGo.BAD);
        check.due("sheet(4, 0, -1)", x.sheet(4, 0, -1), ValuesGo.BAD);
        check.due("sheet(0, -2, 1)", x.sheet(0, -2, 1), ValuesGo.BAD);
        check.due("sheet(0, 3, -1)", x.sheet(0, 3, -1), ValuesGo.BAD);
        check.due("sheet(0, 0, 41)", x.sheet(0, 0, 41), ValuesGo.BAD);
        check.due("sheet(0, 0, most)", x.sheet(0, 0, MOST), ValuesGo.BAD);
        check.due("sheet(0, 0, -1)", x.sheet(0, 0, -1), -14);
        check.due("sheet(0, 2, least)", x.sheet(0, 2, LEAST), -14);
        check.due("what was refused changed nothing", x.item(0, 39), 0);
    }

    private static void put() {
        ValuesGo x = new ValuesGo();
        x.sheet(0, 0, 2);
        x.sheet(1, 1, 2);
        x.sheet(2, 2, 2);
        int[][] due = {{0, 0, 0}, {127, 127, 127}, {128, 128, -128}, {255, 255, -1}, {-129, -129, 127}, {32767, 32767, -1},
            {32768, -32768, 0}, {65535, -1, -1}, {-32769, 32767, -1}, {MOST, -1, -1}, {LEAST, 0, 0}, {0x12345678, 0x5678, 0x78}};
        for (int[] d : due) {
            for (int sheet = 0; sheet < 3; sheet++) {
                check.due("put(" + sheet + ", 1, " + d[0] + ")", x.put(sheet, 1, d[0]), 1);
                check.due("item(" + sheet + ", 1) behind it", x.item(sheet, 1), d[sheet]);
                check.due("item(" + sheet + ", 0)", x.item(sheet, 0), 0);
            }
        }
        check.due("put(-1, 0, 0)", x.put(-1, 0, 0), ValuesGo.BAD);
        check.due("put(4, 0, 0)", x.put(4, 0, 0), ValuesGo.BAD);
        check.due("put(3, 0, 0)", x.put(3, 0, 0), -11);
        check.due("put(3, -1, 0)", x.put(3, -1, 0), -11);
        check.due("put(0, -1, 0)", x.put(0, -1, 0), -12);
        check.due("put(0, 2, 0)", x.put(0, 2, 0), -12);
        check.due("put(0, most, 0)", x.put(0, MOST, 0), -12);
        check.due("put(0, least, 0)", x.put(0, LEAST, 0), -12);
    }

    private static void item() {
        ValuesGo x = new ValuesGo();
        x.sheet(0, 0, 3);
        x.put(0, 2, -99999);
        check.due("item(0, 2)", x.item(0, 2), -99999);
        check.due("item(0, 0)", x.item(0, 0), 0);
        check.due("item(0, 3)", x.item(0, 3), -99999);
        check.due("item(0, -1)", x.item(0, -1), -99999);
        check.due("item(1, 0)", x.item(1, 0), -99999);
        check.due("item(-1, 0)", x.item(-1, 0), -99999);
        check.due("item(4, 0)", x.item(4, 0), -99999);
        check.due("item(0, least)", x.item(0, LEAST), -99999);
    }

    private static void fill(ValuesGo x, int sheet, int sort, int n) {
        x.sheet(sheet, sort, n);
        for (int i = 0; i < n; i++) {
            x.put(sheet, i, 10 * sheet + i + 1);
        }
    }

    private static void itemsAre(ValuesGo x, int sheet, int... due) {
        for (int i = 0; i < due.length; i++) {
            check.due("item(" + sheet + ", " + i + ")", x.item(sheet, i), due[i]);
        }
    }

    private static void copy() {
        for (int sort = 0; sort < 3; sort++) {
            ValuesGo x = new ValuesGo();
            fill(x, 0, sort, 5);
            fill(x, 1, sort, 4);
            check.due("copy(0, 1, 1, 2, 2)", x.copy(0, 1, 1, 2, 2), 2);
            itemsAre(x, 1, 11, 12, 2, 3);
            itemsAre(x, 0, 1, 2, 3, 4, 5);
            check.due("copy(1, 0, 0, 1, 4)", x.copy(1, 0, 0, 1, 4), 4);
            itemsAre(x, 0, 1, 11, 12, 2, 3);
            check.due("copy(0, 5, 1, 4, 0)", x.copy(0, 5, 1, 4, 0), 0);
            check.due("copy(0, 0, 1, 0, 0)", x.copy(0, 0, 1, 0, 0), 0);
            itemsAre(x, 1, 11, 12, 2, 3);
        }
    }

    private static void copyWithinOne() {
        ValuesGo x = new ValuesGo();
        fill(x, 0, 0, 5);
        check.due("copy(0, 0, 0, 1, 4)", x.copy(0, 0, 0, 1, 4), 4);
        itemsAre(x, 0, 1, 1, 2, 3, 4);
        check.due("copy(0, 1, 0, 0, 4)", x.copy(0, 1, 0, 0, 4), 4);
        itemsAre(x, 0, 1, 2, 3, 4, 4);
    }

    private static void copyRefusals() {
        ValuesGo x = new ValuesGo();
        fill(x, 0, 0, 5);
        fill(x, 1, 0, 4);
        fill(x, 2, 1, 4);
        check.due("copy(-1, 0, 3, 0, 1)", x.copy(-1, 0, 3, 0, 1), ValuesGo.BAD);
        check.due("copy(0, 0, 4, 0, 1)", x.copy(0, 0, 4, 0, 1), ValuesGo.BAD);
        check.due("copy(0, 0, 3, 0, 1)", x.copy(0, 0, 3, 0, 1), -11);
        check.due("copy(3, 0, 0, 0, -1)", x.copy(3, 0, 0, 0, -1), -11);
        check.due("copy(3, 0, 3, 0, 0)", x.copy(3, 0, 3, 0, 0), -11);
        check.due("copy(0, 0, 2, 0, 1)", x.copy(0, 0, 2, 0, 1), -13);
        check.due("copy(2, -1, 1, 0, 1)", x.copy(2, -1, 1, 0, 1), -13);
        check.due("copy(0, 0, 2, 0, 0)", x.copy(0, 0, 2, 0, 0), -13);
        int[][] outside = {{-1, 0, 1}, {0, -1, 1}, {0, 0, -1}, {0, 0, 5}, {2, 0, 4}, {0, 2, 3}, {5, 0, 1}, {6, 0, 0}, {0, 5, 0},
            {MOST, 0, 1}, {0, MOST, 1}, {1, 1, MOST}, {0, 0, LEAST}, {LEAST, LEAST, LEAST}, {MOST, MOST, MOST}};
        for (int[] o : outside) {
            check.due("copy(0, " + o[0] + ", 1, " + o[1] + ", " + o[2] + ")", x.copy(0, o[0], 1, o[1], o[2]), -12);
        }
        itemsAre(x, 0, 1, 2, 3, 4, 5);
        itemsAre(x, 1, 11, 12, 13, 14);
        itemsAre(x, 2, 21, 22, 23, 24);
    }

    /** A sheet of a sort with these numbers. */
    private static ValuesGo sheetOf(int sort, int... items) {
        ValuesGo x = new ValuesGo();
        Check.show(x, 0, sort, items);
        return x;
    }

    private static void load() {
        for (int sort = 0; sort < 3; sort++) {
            ValuesGo x = sheetOf(sort, 99, 0, 7, 2, 96);
            Check.rule(x, "a<b");
            x.run();
            check.due("load(0, " + sort + ", 1, 2)", x.load(0, sort, 1, 2), 2);
            check.due("decisions", x.count(2), 2);
            check.due("domain(0)", x.domain(0), 7);
            check.due("domain(2)", x.domain(2), 96);
            check.due("decision(1, 0)", x.decision(1, 0), 2);
            check.due("decision(1, 1)", x.decision(1, 1), 96);
            check.due("nothing ran", x.count(5), 1);
            check.due("a<b is to run", x.count(4), 1);
            check.due("load(0, " + sort + ", 1, 0)", x.load(0, sort, 1, 0), 0);
        }
        ValuesGo y = sheetOf(0, 0, 1, 1, 1, 2, 1, 3, 1, 4, 1, 5, 1, 6, 1, 7, 1);
        check.due("eight of them", y.load(0, 0, 0, 8), 8);
        check.due("settled", y.count(6), 8);
    }

    private static void loadLeavesOut() {
        ValuesGo x = sheetOf(0, 8, 1, -1, 1, 3, 1024, 3, -1, 3, 1, 4, 1023);
        check.due("two of six", x.load(0, 0, 0, 6), 2);
        check.due("decision(0, 0)", x.decision(0, 0), 3);
        check.due("decision(1, 0)", x.decision(1, 0), 4);
        ValuesGo y = sheetOf(0, 0, 1, 1, 0, 2, 1);
        check.due("none behind a failure", y.load(0, 0, 0, 3), 2);
        check.due("domain(2)", y.domain(2), 1023);
        ValuesGo z = sheetOf(0, 0, 1023, 1, 1);
        for (int i = 0; i < 11; i++) {
            z.tell(7, 1023);
        }
        check.due("none behind the twelfth", z.load(0, 0, 0, 2), 1);
        check.due("domain(1)", z.domain(1), 1023);
        ValuesGo b = sheetOf(2, 0, 255, 1, 127);
        check.due("a byte's 255 is -1 and no set", b.load(0, 2, 0, 2), 1);
        check.due("domain(1)", b.domain(1), 127);
    }

    private static void loadRefusals() {
        ValuesGo x = sheetOf(1, 0, 1, 1, 1);
        check.due("load(-1, 0, 0, 1)", x.load(-1, 0, 0, 1), ValuesGo.BAD);
        check.due("load(4, 0, 0, 1)", x.load(4, 0, 0, 1), ValuesGo.BAD);
        check.due("load(0, -1, 0, 1)", x.load(0, -1, 0, 1), ValuesGo.BAD);
        check.due("load(0, 3, 0, 1)", x.load(0, 3, 0, 1), ValuesGo.BAD);
        check.due("load(1, 0, 0, -1)", x.load(1, 0, 0, -1), ValuesGo.BAD);
        check.due("load(1, 0, 0, 9)", x.load(1, 0, 0, 9), ValuesGo.BAD);
        check.due("load(0, 0, -1, 1)", x.load(0, 0, -1, 1), -13);
        check.due("load(0, 2, 0, 0)", x.load(0, 2, 0, 0), -13);
        check.due("load(1, 0, -1, 1)", x.load(1, 0, -1, 1), -11);
        check.due("decisions", x.count(2), 0);
    }

    private static void loadOutside() {
        ValuesGo x = sheetOf(1, 0, 1, 1, 1, 2);
        check.due("load(0, 1, -1, 1)", x.load(0, 1, -1, 1), -12);
        check.due("load(0, 1, 5, 1)", x.load(0, 1, 5, 1), -12);
        check.due("load(0, 1, most, 1)", x.load(0, 1, MOST, 1), -12);
        check.due("load(0, 1, most, 8)", x.load(0, 1, MOST, 8), -12);
        check.due("load(0, 1, most - 4, 8)", x.load(0, 1, MOST - 4, 8), -12);
        check.due("load(0, 1, least, 8)", x.load(0, 1, LEAST, 8), -12);
        check.due("load(0, 1, 4, 1): the set is outside", x.load(0, 1, 4, 1), -12);
        check.due("decisions", x.count(2), 0);
        check.due("load(0, 1, -9, 0): none is asked", x.load(0, 1, -9, 0), 0);
        check.due("load(0, 1, 0, 3)", x.load(0, 1, 0, 3), -12);
        check.due("what stood ahead was told", x.count(2), 2);
        check.due("domain(1)", x.domain(1), 1);
        check.due("domain(2)", x.domain(2), 1023);
    }
}
