/** Promise 1 (a new object) and promise 2 (store); each sentence is quoted over the tests that hold it. */
public final class StoreTest {
    public static void main(String[] args) {
        newObjectIsEmpty();
        objectsAreApart();
        storesAnItem();
        endIsTheClockAndTheTime();
        noEndIfTheTimeIsZero();
        newEndTakesThePlaceOfTheOld();
        sameSortTakesTheCell();
        sameSortTakesTheCellOfAFullSort();
        Checks.forEachTwoSorts(StoreTest::otherSortTakesAFreeCell);
        Checks.forEachTwoSorts(StoreTest::otherSortTakesItsOnlyFreeCell);
        Checks.forEachTwoSorts(StoreTest::otherSortTakesAFreePage);
        Checks.forEachTwoSorts(StoreTest::otherSortTakesAFreePageBesideItsFullOne);
        Checks.forEachTwoSorts(StoreTest::otherSortGivesUpItsLongestUnused);
        otherSortGivesBackTheCell();
        Checks.forEachTwoSorts(StoreTest::noRoomInTheOtherSortKeepsTheOldItem);
        aGoneItemIsNoOldItem();
        keysInAndOutOfRange();
        lengthsInAndOutOfRange();
        timesInAndOutOfRange();
        wrongInputsComeBeforeNoRoom();
        Checks.finish();
    }

    // "No item; the clock is 0; all pages are free."
    private static void newObjectIsEmpty() {
        SlabCache c = new SlabCache();
        Checks.dueItems("new", c, 0, 0, 0);
        Checks.duePages("new", c, 0, 0, 0, 8);
        for (int sort = 0; sort < 3; sort++) {
            Checks.due("new: oldest(" + sort + ")", c.oldest(sort), -1);
        }
        for (int key = 0; key < 256; key++) {
            Checks.due("new: has(" + key + ")", c.has(key), 0);
        }
        Checks.due("new: tick(1000)", c.tick(1000), 0);
        // Where the clock begins shows only through ends, which count from it.
        SlabCache d = new SlabCache();
        Checks.due("new: store(0, 1, 7, 1)", d.store(0, 1, 7, 1), 1);
        Checks.due("new: has(0)", d.has(0), 1);
        Checks.due("new: tick(0)", d.tick(0), 0);
        Checks.due("new: tick(1)", d.tick(1), 1);
        SlabCache e = new SlabCache();
        for (int key : new int[] {0, 255}) {
            Checks.dueNone("new", e, key);
        }
    }

    private static void objectsAreApart() {
        SlabCache a = new SlabCache();
        SlabCache b = new SlabCache();
        a.store(1, 1, 5, 0);
        Checks.due("apart: has(1)", b.has(1), 0);
        Checks.due("apart: pages(3)", b.pages(3), 8);
        Checks.due("apart: store(2, 1, 5, 0)", b.store(2, 1, 5, 0), 1);
        Checks.due("apart: items(0)", a.items(0), 1);
    }

    // "Stores an item with the key, length and value" ... "Answers the item's number"
    private static void storesAnItem() {
        SlabCache c = new SlabCache();
        Checks.due("store(0, 1, 10, 0)", c.store(0, 1, 10, 0), 1);
        Checks.due("store(255, 12, 20, 1000)", c.store(255, 12, 20, 1000), 2);
        Checks.due("store(128, 6, 0, 1)", c.store(128, 6, 0, 1), 3);
        Checks.due("get(0)", c.get(0), 10);
        Checks.due("get(255)", c.get(255), 20);
        Checks.due("get(128)", c.get(128), 0);
        Checks.due("has(128)", c.has(128), 1);
        Checks.due("number(0)", c.number(0), 1);
        Checks.due("number(255)", c.number(255), 2);
        Checks.due("number(128)", c.number(128), 3);
        Checks.dueItems("stored", c, 1, 1, 1);
    }

    // "with the end clock + time"
    private static void endIsTheClockAndTheTime() {
        int[] clocks = {0, 1, 100, 1000};
        int[] times = {1, 2, 999, 1000};
        for (int clock : clocks) {
            for (int time : times) {
                SlabCache c = new SlabCache();
                c.tick(clock);
                c.store(1, 1, 1, time);
                String when = "stored at " + clock + " for " + time;
                Checks.due(when + ": tick before the end", c.tick(time - 1), 0);
                Checks.due(when + ": has(1) before the end", c.has(1), 1);
                Checks.due(when + ": tick to the end", c.tick(1), 1);
                Checks.due(when + ": has(1) at the end", c.has(1), 0);
            }
        }
    }

    // "or none if time is 0"
    private static void noEndIfTheTimeIsZero() {
        int[] clocks = {0, 1, 1000};
        for (int clock : clocks) {
            SlabCache c = new SlabCache();
            c.tick(clock);
            Checks.due("no end: store(1, 1, 7, 0)", c.store(1, 1, 7, 0), 1);
            Checks.due("no end: has(1)", c.has(1), 1);
            Checks.due("no end: tick(0)", c.tick(0), 0);
            Checks.due("no end: tick(1)", c.tick(1), 0);
            Checks.due("no end: tick(1000)", c.tick(1000), 0);
            Checks.due("no end: get(1)", c.get(1), 7);
        }
    }

    private static void newEndTakesThePlaceOfTheOld() {
        int[] lengths = {1, 3, 4, 12};
        for (int length : lengths) {
            SlabCache c = new SlabCache();
            c.store(4, 1, 4, 5);
            c.store(4, length, 4, 0);
            c.store(5, 1, 5, 0);
            c.store(5, length, 5, 5);
            c.store(6, 1, 6, 5);
            c.store(6, length, 6, 6);
            Checks.due("new end: tick(4)", c.tick(4), 0);
            Checks.due("new end: tick(1)", c.tick(1), 1);
            Checks.due("new end: has(5)", c.has(5), 0);
            Checks.due("new end: tick(1) again", c.tick(1), 1);
            Checks.due("new end: has(6)", c.has(6), 0);
            Checks.due("new end: tick(1000)", c.tick(1000), 0);
            Checks.due("new end: has(4)", c.has(4), 1);
            // A key whose item had an end, and is gone by it, has none when it is stored anew without one.
            c.store(5, length, 5, 0);
            Checks.due("new end: tick(1000) stored anew", c.tick(1000), 0);
            Checks.due("new end: has(5) stored anew", c.has(5), 1);
        }
    }

    // "if it is of the same sort, it takes that one's cell"
    private static void sameSortTakesTheCell() {
        for (int sort = 0; sort < 3; sort++) {
            // With all its pages full and a page free, it must not take that page.
            SlabCache c = Checks.fullPages(2, sort);
            int count = 2 * Checks.CELLS[sort];
            Checks.due("same sort: store(1)", c.store(1, Checks.SHORTEST[sort], 50, 0), count + 1);
            Checks.due("same sort: get(1)", c.get(1), 50);
            Checks.due("same sort: number(1)", c.number(1), count + 1);
            Checks.due("same sort: items(" + sort + ")", c.items(sort), count);
            Checks.due("same sort: pages(" + sort + ")", c.pages(sort), 2);
            Checks.due("same sort: pages(3)", c.pages(3), 6);
        }
        // With a cell free, it must leave that cell free.
        SlabCache d = Checks.filled(0, 3, 1);
        d.store(0, 2, 1, 0);
        d.store(3, 2, 1, 0);
        Checks.dueItems("same sort, a cell free", d, 4, 0, 0);
        Checks.duePages("same sort, a cell free", d, 1, 0, 0, 7);
    }

    private static void sameSortTakesTheCellOfAFullSort() {
        for (int sort = 0; sort < 3; sort++) {
            int count = 8 * Checks.CELLS[sort];
            int[] keys = {0, 3, count - 1};
            for (int key : keys) {
                SlabCache c = Checks.fullPages(8, sort);
                Checks.due("full: store(" + key + ")", c.store(key, Checks.SHORTEST[sort], 50, 0), count + 1);
                Checks.due("full: items(" + sort + ")", c.items(sort), count);
                for (int k = 0; k < count; k++) {
                    Checks.due("full, store(" + key + "): has(" + k + ")", c.has(k), 1);
                }
                Checks.due("full, store(" + key + "): oldest(" + sort + ")", c.oldest(sort), key == 0 ? 1 : 0);
                Checks.due("full, store(" + key + "): get", c.get(key), 50);
            }
        }
        // The only cell of its sort, and no page free: still room for the item itself.
        SlabCache alone = Checks.fullPages(7, 0);
        alone.store(100, 12, 1, 0);
        Checks.due("only cell: store(100, 7, 2, 0)", alone.store(100, 7, 2, 0), 30);
        Checks.due("only cell: get(100)", alone.get(100), 2);
        Checks.dueItems("only cell", alone, 28, 0, 1);
    }

    // "else room is made in its own sort first, and then the old item is gone"
    private static void otherSortTakesAFreeCell(int from, int to) {
        SlabCache c = Checks.fullPages(1, from);
        Checks.fill(c, 100, Checks.CELLS[to], Checks.LONGEST[to]);
        c.remove(100);
        c.store(0, Checks.SHORTEST[to], 50, 0);
        dueMoved("free cell", c, from, to, Checks.CELLS[from] - 1, Checks.CELLS[to]);
        Checks.due("free cell: pages(" + from + ")", c.pages(from), 1);
        Checks.due("free cell: pages(" + to + ")", c.pages(to), 1);
        Checks.due("free cell: pages(3)", c.pages(3), 6);
    }

    private static void otherSortTakesItsOnlyFreeCell(int from, int to) {
        // No page is free; of sort 2 there is not even an item to give up, and still room.
        SlabCache c = Checks.fullPages(7, from);
        Checks.fill(c, 100, Checks.CELLS[to], Checks.LONGEST[to]);
        c.remove(100);
        c.store(0, Checks.SHORTEST[to], 50, 0);
        dueMoved("only free cell", c, from, to, 7 * Checks.CELLS[from] - 1, Checks.CELLS[to]);
        for (int key = 101; key < 100 + Checks.CELLS[to]; key++) {
            Checks.due("only free cell: has(" + key + ")", c.has(key), 1);
        }
        Checks.due("only free cell: pages(" + from + ")", c.pages(from), 7);
        Checks.due("only free cell: pages(" + to + ")", c.pages(to), 1);
    }

    private static void otherSortTakesAFreePage(int from, int to) {
        // The last free page.
        SlabCache c = Checks.fullPages(7, from);
        c.store(0, Checks.SHORTEST[to], 50, 0);
        dueMoved("free page", c, from, to, 7 * Checks.CELLS[from] - 1, 1);
        Checks.due("free page: pages(" + from + ")", c.pages(from), 7);
        Checks.due("free page: pages(" + to + ")", c.pages(to), 1);
        Checks.due("free page: pages(3)", c.pages(3), 0);
    }

    private static void otherSortTakesAFreePageBesideItsFullOne(int from, int to) {
        SlabCache c = Checks.fullPages(6, from);
        Checks.fill(c, 100, Checks.CELLS[to], Checks.LONGEST[to]);
        c.store(0, Checks.SHORTEST[to], 50, 0);
        dueMoved("free page again", c, from, to, 6 * Checks.CELLS[from] - 1, Checks.CELLS[to] + 1);
        Checks.due("free page again: oldest(" + to + ")", c.oldest(to), 100);
        Checks.due("free page again: pages(" + from + ")", c.pages(from), 6);
        Checks.due("free page again: pages(" + to + ")", c.pages(to), 2);
        Checks.due("free page again: pages(3)", c.pages(3), 0);
    }

    private static void otherSortGivesUpItsLongestUnused(int from, int to) {
        SlabCache c = Checks.fullPages(7, from);
        Checks.fill(c, 100, Checks.CELLS[to], Checks.LONGEST[to]);
        c.store(0, Checks.SHORTEST[to], 50, 0);
        dueMoved("give up", c, from, to, 7 * Checks.CELLS[from] - 1, Checks.CELLS[to]);
        Checks.due("give up: has(100)", c.has(100), 0);
        Checks.due("give up: pages(" + from + ")", c.pages(from), 7);
        Checks.due("give up: pages(" + to + ")", c.pages(to), 1);
        Checks.due("give up: oldest(" + from + ")", c.oldest(from), 1);
        Checks.due("give up: oldest(" + to + ")", c.oldest(to), Checks.CELLS[to] == 1 ? 0 : 101);
    }

    private static void dueMoved(String when, SlabCache c, int from, int to, int fromItems, int toItems) {
        String move = when + ", sort " + from + " to " + to;
        Checks.due(move + ": items(" + from + ")", c.items(from), fromItems);
        Checks.due(move + ": items(" + to + ")", c.items(to), toItems);
        Checks.due(move + ": has(0)", c.has(0), 1);
        Checks.due(move + ": get(0)", c.get(0), 50);
    }

    private static void otherSortGivesBackTheCell() {
        SlabCache c = Checks.filled(0, 7, 12);
        Checks.fill(c, 50, 4, 1);
        c.store(50, 12, 1, 0);
        c.store(60, 2, 1, 0);
        Checks.due("cell back: items(0)", c.items(0), 4);
        Checks.due("cell back: has(51)", c.has(51), 1);
        c.store(61, 2, 1, 0);
        Checks.dueOrder("no cell more", c, 0, 52, 53, 60, 61);
    }

    // "-2, and changes nothing, if there is no room" (that nothing else changes is in UnchangedTest)
    private static void noRoomInTheOtherSortKeepsTheOldItem(int from, int to) {
        SlabCache c = Checks.fullPages(8, from);
        c.touch(0, 5);
        Checks.due("no room: store(0)", c.store(0, Checks.LONGEST[to], 9, 0), -2);
        Checks.due("no room: store(200)", c.store(200, Checks.LONGEST[to], 9, 0), -2);
        Checks.due("no room: has(200)", c.has(200), 0);
        Checks.due("no room: number(0)", c.number(0), 1);
        Checks.due("no room: oldest(" + from + ")", c.oldest(from), 1);
        Checks.due("no room: items(" + to + ")", c.items(to), 0);
        Checks.due("no room: items(" + from + ")", c.items(from), 8 * Checks.CELLS[from]);
        Checks.due("no room: get(0)", c.get(0), 0);
        Checks.due("no room: get(1)", c.get(1), 1);
        Checks.due("no room: tick(5)", c.tick(5), 1);
        Checks.due("no room: has(0) at its end", c.has(0), 0);
        Checks.due("no room: the next number", c.store(200, Checks.LONGEST[from], 1, 0),
            8 * Checks.CELLS[from] + 1);
    }

    // "If there is an item with the key": one that is gone is none.
    private static void aGoneItemIsNoOldItem() {
        SlabCache c = Checks.fullPages(8, 2);
        c.touch(3, 1);
        c.tick(1);
        Checks.due("gone: store(3, 1, 9, 0)", c.store(3, 1, 9, 0), -2);
        Checks.due("gone: has(3)", c.has(3), 0);
        c.store(100, 12, 1, 0);
        Checks.due("gone: has(0)", c.has(0), 1);
        // Its cell is taken now, so it has no cell of its own to go back to.
        Checks.due("gone: store(3, 12, 9, 0)", c.store(3, 12, 9, 0), 10);
        Checks.dueOrder("gone", c, 2, 1, 2, 4, 5, 6, 7, 100, 3);
    }

    // "-1, and changes nothing, if key is out of range"
    private static void keysInAndOutOfRange() {
        dueAnswer(0, 1, 0, 1);
        dueAnswer(255, 1, 0, 1);
        int[] wrong = {-1, -2, -255, -256, 256, 257, 512, Checks.LEAST, Checks.GREATEST};
        for (int key : wrong) {
            dueAnswer(key, 1, 0, -1);
        }
    }

    // "length is not from 1 to 12"
    private static void lengthsInAndOutOfRange() {
        dueAnswer(7, 1, 0, 1);
        dueAnswer(7, 12, 0, 1);
        int[] wrong = {0, -1, -12, 13, 14, 24, Checks.LEAST, Checks.GREATEST};
        for (int length : wrong) {
            dueAnswer(7, length, 0, -1);
        }
    }

    // "or time is not from 0 to 1000"
    private static void timesInAndOutOfRange() {
        dueAnswer(7, 1, 0, 1);
        dueAnswer(7, 1, 1, 1);
        dueAnswer(7, 1, 1000, 1);
        int[] wrong = {-1, -2, -1000, 1001, 1002, 2000, Checks.LEAST, Checks.GREATEST};
        for (int time : wrong) {
            dueAnswer(7, 1, time, -1);
        }
    }

    private static void dueAnswer(int key, int length, int time, int want) {
        SlabCache c = new SlabCache();
        String call = "store(" + key + ", " + length + ", 9, " + time + ")";
        Checks.due(call, c.store(key, length, 9, time), want);
        Checks.due(call + ": pages(3)", c.pages(3), want == 1 ? 7 : 8);
        int there = c.items(0) + c.items(1) + c.items(2);
        Checks.due(call + ": items of all sorts", there, want == 1 ? 1 : 0);
        Checks.due(call + ": has(" + key + ")", c.has(key), want == 1 ? 1 : 0);
        Checks.due(call + ": the next number", c.store(1, 1, 1, 0), want == 1 ? 2 : 1);
    }

    // "(tested in this order)"
    private static void wrongInputsComeBeforeNoRoom() {
        SlabCache c = Checks.fullPages(8, 2);
        Checks.due("order: store(100, 1, 1, 0)", c.store(100, 1, 1, 0), -2);
        Checks.due("order: store(256, 1, 1, 0)", c.store(256, 1, 1, 0), -1);
        Checks.due("order: store(-1, 1, 1, 0)", c.store(-1, 1, 1, 0), -1);
        Checks.due("order: store(100, 0, 1, 0)", c.store(100, 0, 1, 0), -1);
        Checks.due("order: store(100, 13, 1, 0)", c.store(100, 13, 1, 0), -1);
        Checks.due("order: store(100, 1, 1, 1001)", c.store(100, 1, 1, 1001), -1);
        Checks.due("order: store(100, 1, 1, -1)", c.store(100, 1, 1, -1), -1);
        Checks.due("order: store(0, 4, 1, -1)", c.store(0, 4, 1, -1), -1);
        Checks.due("order: store(100, 12, 1, 1001)", c.store(100, 12, 1, 1001), -1);
        Checks.due("order: has(0)", c.has(0), 1);
        Checks.due("order: items(2)", c.items(2), 8);
    }
}
