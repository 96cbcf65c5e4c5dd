/** Promise 1 (a new object), promise 2 (store) and the terms that store rests on. */
public final class StoreTest {
    private static final int LEAST = Integer.MIN_VALUE;
    private static final int GREATEST = Integer.MAX_VALUE;

    public static void main(String[] args) {
        newObjectIsEmpty();
        objectsAreApart();
        storesAnItem();
        lengthTellsTheSort();
        pagesHaveTheirCells();
        storeSetsTheEnd();
        storingIsAUse();
        sameSortTakesTheCell();
        sameSortTakesTheCellOfAFullSort();
        otherSortMakesRoomFirst();
        otherSortMayGiveUpAnItem();
        otherSortGivesBackTheCell();
        fullSortGivesUpTheOldest();
        freeCellComesBeforeAFreePage();
        pagesStayWithTheirSort();
        noRoomChangesNothing();
        noRoomIfTheSortHasPagesOfOthersOnly();
        wrongInputsChangeNothing();
        wrongInputsComeBeforeNoRoom();
        Checks.finish();
    }

    private static void newObjectIsEmpty() {
        SlabCache c = new SlabCache();
        Checks.dueItems("new", c, 0, 0, 0);
        Checks.duePages("new", c, 0, 0, 0, 8);
        for (int sort = 0; sort < 3; sort++) {
            Checks.due("new: oldest(" + sort + ")", c.oldest(sort), -1);
        }
        for (int key = 0; key < 256; key++) {
            Checks.due("new: has(" + key + ")", c.has(key), 0);
        }
        Checks.due("new: tick(1000)", c.tick(1000), 0);
        // Where the clock begins shows only through ends, which count from it.
        SlabCache d = new SlabCache();
        Checks.due("new: store(0, 1, 7, 1)", d.store(0, 1, 7, 1), 1);
        Checks.due("new: has(0)", d.has(0), 1);
        Checks.due("new: tick(0)", d.tick(0), 0);
        Checks.due("new: tick(1)", d.tick(1), 1);
    }

    private static void objectsAreApart() {
        SlabCache a = new SlabCache();
        SlabCache b = new SlabCache();
        a.store(1, 1, 5, 0);
        Checks.due("apart: has(1)", b.has(1), 0);
        Checks.due("apart: pages(3)", b.pages(3), 8);
        Checks.due("apart: store(2, 1, 5, 0)", b.store(2, 1, 5, 0), 1);
        Checks.due("apart: items(0)", a.items(0), 1);
    }

    private static void storesAnItem() {
        SlabCache c = new SlabCache();
        Checks.due("store(0, 1, LEAST, 0)", c.store(0, 1, LEAST, 0), 1);
        Checks.due("store(255, 12, GREATEST, 1000)", c.store(255, 12, GREATEST, 1000), 2);
        Checks.due("store(128, 6, 0, 1)", c.store(128, 6, 0, 1), 3);
        Checks.due("get(0)", c.get(0), LEAST);
        Checks.due("get(255)", c.get(255), GREATEST);
        Checks.due("get(128)", c.get(128), 0);
        Checks.due("has(128)", c.has(128), 1);
        Checks.due("number(128)", c.number(128), 3);
        Checks.dueItems("stored", c, 1, 1, 1);
    }

    private static void lengthTellsTheSort() {
        int[] sorts = {0, 0, 0, 1, 1, 1, 2, 2, 2, 2, 2, 2};
        for (int length = 1; length <= 12; length++) {
            SlabCache c = new SlabCache();
            c.store(9, length, 1, 0);
            for (int sort = 0; sort < 3; sort++) {
                int want = sorts[length - 1] == sort ? 1 : 0;
                Checks.due("length " + length + ": items(" + sort + ")", c.items(sort), want);
                Checks.due("length " + length + ": pages(" + sort + ")", c.pages(sort), want);
            }
        }
    }

    private static void pagesHaveTheirCells() {
        int[] lengths = {3, 6, 12};
        int[] cells = {4, 2, 1};
        for (int sort = 0; sort < 3; sort++) {
            SlabCache c = new SlabCache();
            for (int i = 0; i < 8 * cells[sort]; i++) {
                c.store(i, lengths[sort], i, 0);
                Checks.due("item " + i + ": pages(" + sort + ")", c.pages(sort), i / cells[sort] + 1);
                Checks.due("item " + i + ": pages(3)", c.pages(3), 7 - i / cells[sort]);
            }
            Checks.due("full: items(" + sort + ")", c.items(sort), 8 * cells[sort]);
        }
    }

    private static void storeSetsTheEnd() {
        SlabCache c = new SlabCache();
        c.tick(100);
        c.store(1, 1, 1, 5);
        c.store(2, 1, 2, 0);
        c.store(3, 1, 3, 1000);
        c.store(4, 1, 4, 5);
        c.store(4, 1, 4, 0);
        c.store(5, 1, 5, 0);
        c.store(5, 1, 5, 5);
        Checks.due("end: tick(4)", c.tick(4), 0);
        Checks.due("end: tick(1)", c.tick(1), 2);
        Checks.due("end: has(1)", c.has(1), 0);
        Checks.due("end: has(4)", c.has(4), 1);
        Checks.due("end: has(5)", c.has(5), 0);
        Checks.due("end: tick(994)", c.tick(994), 0);
        Checks.due("end: tick(1), the last", c.tick(1), 1);
        Checks.due("end: has(3)", c.has(3), 0);
        Checks.due("end: has(2)", c.has(2), 1);
        // A key that had an end has none when it is stored anew without one.
        c.store(1, 1, 1, 0);
        Checks.due("end: tick(1000)", c.tick(1000), 0);
        Checks.due("end: has(1) stored anew", c.has(1), 1);
    }

    private static void storingIsAUse() {
        SlabCache c = Checks.filled(10, 3, 2);
        Checks.due("use: oldest(0)", c.oldest(0), 10);
        c.store(10, 3, 1, 0);
        Checks.due("use: oldest(0) after store(10)", c.oldest(0), 11);
        c.store(11, 2, 11, 0);
        Checks.due("use: oldest(0) after store(11)", c.oldest(0), 12);
    }

    private static void sameSortTakesTheCell() {
        SlabCache c = new SlabCache();
        c.store(5, 7, 1, 0);
        Checks.due("same sort: store(5, 12, 2, 0)", c.store(5, 12, 2, 0), 2);
        Checks.due("same sort: get(5)", c.get(5), 2);
        Checks.dueItems("same sort", c, 0, 0, 1);
        Checks.duePages("same sort", c, 0, 0, 1, 7);
    }

    private static void sameSortTakesTheCellOfAFullSort() {
        SlabCache c = Checks.filled(0, 8, 8);
        Checks.due("full sort: store(3, 9, 33, 0)", c.store(3, 9, 33, 0), 9);
        Checks.due("full sort: items(2)", c.items(2), 8);
        Checks.due("full sort: has(0)", c.has(0), 1);
        Checks.due("full sort: oldest(2)", c.oldest(2), 0);
        Checks.due("full sort: get(3)", c.get(3), 33);
    }

    private static void otherSortMakesRoomFirst() {
        SlabCache c = new SlabCache();
        c.store(5, 3, 1, 0);
        Checks.due("other sort: store(5, 4, 2, 0)", c.store(5, 4, 2, 0), 2);
        Checks.due("other sort: get(5)", c.get(5), 2);
        Checks.due("other sort: number(5)", c.number(5), 2);
        Checks.dueItems("other sort", c, 0, 1, 0);
        Checks.duePages("other sort", c, 1, 1, 0, 6);
        Checks.due("other sort: oldest(0)", c.oldest(0), -1);
        Checks.due("other sort: oldest(1)", c.oldest(1), 5);
    }

    private static void otherSortMayGiveUpAnItem() {
        SlabCache c = Checks.filled(0, 7, 12);
        c.store(100, 1, 100, 0);
        Checks.due("give up: pages(3)", c.pages(3), 0);
        Checks.due("give up: store(100, 7, 1, 0)", c.store(100, 7, 1, 0), 9);
        Checks.due("give up: has(0)", c.has(0), 0);
        Checks.due("give up: has(1)", c.has(1), 1);
        Checks.dueItems("give up", c, 0, 0, 7);
        Checks.duePages("give up", c, 1, 0, 7, 0);
    }

    private static void otherSortGivesBackTheCell() {
        SlabCache c = Checks.filled(0, 7, 12);
        Checks.fill(c, 50, 4, 1);
        c.store(50, 12, 1, 0);
        Checks.due("cell back: items(0)", c.items(0), 3);
        c.store(60, 2, 1, 0);
        Checks.due("cell back: items(0) again", c.items(0), 4);
        Checks.due("cell back: oldest(0)", c.oldest(0), 51);
        c.store(61, 2, 1, 0);
        Checks.due("cell back: has(51)", c.has(51), 0);
        Checks.due("cell back: items(0) when full", c.items(0), 4);
    }

    private static void fullSortGivesUpTheOldest() {
        SlabCache c = Checks.filled(0, 32, 1);
        c.get(0);
        Checks.due("full: store(200, 1, 1, 0)", c.store(200, 1, 1, 0), 33);
        Checks.due("full: has(0)", c.has(0), 1);
        Checks.due("full: has(1)", c.has(1), 0);
        Checks.due("full: has(2)", c.has(2), 1);
        Checks.due("full: items(0)", c.items(0), 32);
        // The one given up is of the item's sort, even if another sort's is older.
        SlabCache d = new SlabCache();
        d.store(0, 1, 0, 0);
        Checks.fill(d, 1, 7, 12);
        d.store(9, 12, 1, 0);
        Checks.due("own sort: has(0)", d.has(0), 1);
        Checks.due("own sort: has(1)", d.has(1), 0);
        Checks.due("own sort: store(10, 5, 1, 0)", d.store(10, 5, 1, 0), -2);
    }

    private static void freeCellComesBeforeAFreePage() {
        SlabCache c = Checks.filled(0, 8, 1);
        c.remove(2);
        c.store(20, 1, 1, 0);
        Checks.duePages("free cell", c, 2, 0, 0, 6);
        c.store(21, 1, 1, 0);
        Checks.duePages("free page", c, 3, 0, 0, 5);
        Checks.due("free page: has(0)", c.has(0), 1);
    }

    private static void pagesStayWithTheirSort() {
        SlabCache c = Checks.filled(0, 8, 12);
        for (int key = 0; key < 8; key++) {
            c.remove(key);
        }
        Checks.dueItems("emptied", c, 0, 0, 0);
        Checks.duePages("emptied", c, 0, 0, 8, 0);
        Checks.due("emptied: store(1, 1, 1, 0)", c.store(1, 1, 1, 0), -2);
        Checks.due("emptied: store(1, 4, 1, 0)", c.store(1, 4, 1, 0), -2);
        Checks.due("emptied: store(1, 7, 1, 0)", c.store(1, 7, 1, 0), 9);
    }

    private static void noRoomChangesNothing() {
        SlabCache c = new SlabCache();
        c.store(0, 12, 70, 5);
        Checks.fill(c, 1, 7, 12);
        Checks.due("no room: store(0, 1, 9, 0)", c.store(0, 1, 9, 0), -2);
        Checks.due("no room: store(100, 6, 9, 0)", c.store(100, 6, 9, 0), -2);
        Checks.due("no room: has(100)", c.has(100), 0);
        Checks.due("no room: number(0)", c.number(0), 1);
        Checks.due("no room: oldest(2)", c.oldest(2), 0);
        Checks.dueItems("no room", c, 0, 0, 8);
        Checks.duePages("no room", c, 0, 0, 8, 0);
        Checks.due("no room: get(0)", c.get(0), 70);
        Checks.due("no room: tick(5)", c.tick(5), 1);
        Checks.due("no room: the next number", c.store(200, 12, 1, 0), 9);
    }

    private static void noRoomIfTheSortHasPagesOfOthersOnly() {
        SlabCache c = Checks.filled(0, 16, 1);
        Checks.fill(c, 100, 8, 5);
        Checks.duePages("two sorts", c, 4, 4, 0, 0);
        Checks.due("two sorts: store(50, 7, 1, 0)", c.store(50, 7, 1, 0), -2);
        Checks.due("two sorts: store(50, 4, 1, 0)", c.store(50, 4, 1, 0), 25);
        Checks.due("two sorts: has(100)", c.has(100), 0);
    }

    private static void wrongInputsChangeNothing() {
        int[][] wrong = {
            {-1, 1, 0}, {256, 1, 0}, {LEAST, 1, 0}, {GREATEST, 1, 0},
            {7, 0, 0}, {7, -1, 0}, {7, 13, 0}, {7, LEAST, 0}, {7, GREATEST, 0},
            {7, 1, -1}, {7, 1, 1001}, {7, 1, LEAST}, {7, 1, GREATEST},
            {8, 4, -1}, {8, 0, 0}, {-1, 0, -1},
        };
        SlabCache c = new SlabCache();
        c.store(7, 1, 77, 0);
        c.store(6, 1, 66, 0);
        for (int[] w : wrong) {
            String call = "store(" + w[0] + ", " + w[1] + ", 9, " + w[2] + ")";
            Checks.due(call, c.store(w[0], w[1], 9, w[2]), -1);
            Checks.dueItems("after " + call, c, 2, 0, 0);
            Checks.duePages("after " + call, c, 1, 0, 0, 7);
            Checks.due("after " + call + ": oldest(0)", c.oldest(0), 7);
            Checks.due("after " + call + ": number(7)", c.number(7), 1);
        }
        Checks.due("wrong: has(8)", c.has(8), 0);
        Checks.due("wrong: get(7)", c.get(7), 77);
        Checks.due("wrong: the next number", c.store(1, 1, 1, 0), 3);
    }

    private static void wrongInputsComeBeforeNoRoom() {
        SlabCache c = Checks.filled(0, 8, 12);
        Checks.due("order: store(256, 1, 1, 0)", c.store(256, 1, 1, 0), -1);
        Checks.due("order: store(100, 0, 1, 0)", c.store(100, 0, 1, 0), -1);
        Checks.due("order: store(100, 1, 1, 1001)", c.store(100, 1, 1, 1001), -1);
        Checks.due("order: store(100, 1, 1, -1)", c.store(100, 1, 1, -1), -1);
        Checks.due("order: store(100, 12, 1, 1001)", c.store(100, 12, 1, 1001), -1);
        Checks.due("order: has(0)", c.has(0), 1);
    }
}
