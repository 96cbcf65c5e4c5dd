/** Promises 10 to 13: tick, items, pages and oldest; sentences are quoted over their tests. */
public final class SortTest {
    public static void main(String[] args) {
        tickGrowsTheClock();
        tickCountsWhatIsGone();
        tickCountsAllAtOnce();
        tickCountsOnlyWhatIsGoneByIt();
        tickOfZero();
        tickRefusesWrongTimes();
        endedItemsLeaveTheirCells();
        itemsCountsEachSort();
        itemsRefusesWrongSorts();
        pagesCountsEachSort();
        pagesRefusesWrongSorts();
        oldestNamesTheLongestUnused();
        oldestOfNoItem();
        oldestRefusesWrongSorts();
        Checks.finish();
    }

    // "The clock grows by time."
    private static void tickGrowsTheClock() {
        int[] steps = {1, 2, 998, 999};
        for (int step : steps) {
            SlabCache c = new SlabCache();
            c.store(1, 1, 1, 1000);
            Checks.due("tick(" + step + ")", c.tick(step), 0);
            Checks.due("tick(" + step + "): all but 1 of the rest", c.tick(999 - step), 0);
            Checks.due("tick(" + step + "): the last 1", c.tick(1), 1);
        }
        SlabCache greatest = new SlabCache();
        greatest.store(1, 1, 1, 1000);
        Checks.due("tick(1000)", greatest.tick(1000), 1);
        SlabCache far = new SlabCache();
        for (int i = 0; i < 500; i++) {
            far.tick(1000);
        }
        far.store(1, 1, 1, 1000);
        Checks.due("far: tick(999)", far.tick(999), 0);
        Checks.due("far: tick(1)", far.tick(1), 1);
    }

    // "Answers how many items are gone by that"
    private static void tickCountsWhatIsGone() {
        SlabCache c = new SlabCache();
        c.store(0, 1, 1, 1);
        c.store(1, 4, 1, 2);
        c.store(2, 7, 1, 2);
        c.store(3, 1, 1, 3);
        c.store(255, 1, 1, 1000);
        c.store(4, 1, 1, 0);
        Checks.due("tick(1)", c.tick(1), 1);
        Checks.dueItems("tick(1)", c, 3, 1, 1);
        Checks.due("tick(2)", c.tick(2), 3);
        Checks.dueItems("tick(2)", c, 2, 0, 0);
        Checks.due("tick(996)", c.tick(996), 0);
        Checks.due("tick(1) at 999", c.tick(1), 1);
        Checks.due("tick(1000)", c.tick(1000), 0);
        Checks.due("tick: has(4)", c.has(4), 1);
    }

    private static void tickCountsAllAtOnce() {
        for (int sort = 0; sort < 3; sort++) {
            SlabCache c = Checks.fullPages(8, sort);
            int count = 8 * Checks.CELLS[sort];
            for (int key = 0; key < count; key++) {
                c.touch(key, 10);
            }
            Checks.due("all: tick(9)", c.tick(9), 0);
            Checks.due("all: items(" + sort + ")", c.items(sort), count);
            Checks.due("all: tick(1)", c.tick(1), count);
            Checks.due("all gone: items(" + sort + ")", c.items(sort), 0);
            Checks.due("all gone: tick(1)", c.tick(1), 0);
        }
    }

    private static void tickCountsOnlyWhatIsGoneByIt() {
        SlabCache c = Checks.fullPages(8, 2);
        for (int key = 0; key < 8; key++) {
            c.touch(key, 5);
        }
        c.remove(0);
        c.store(100, 12, 1, 0);
        c.store(101, 12, 1, 0);
        Checks.due("given up: has(1)", c.has(1), 0);
        c.store(2, 12, 1, 0);
        c.touch(3, 0);
        c.touch(4, 6);
        // Left with the end 5: keys 5, 6 and 7.
        Checks.due("tick(5)", c.tick(5), 3);
        Checks.due("tick(1)", c.tick(1), 1);
        Checks.dueOrder("left", c, 2, 100, 101, 2, 3);
        SlabCache moved = new SlabCache();
        moved.store(1, 1, 1, 5);
        moved.store(1, 4, 1, 5);
        Checks.due("moved: tick(5)", moved.tick(5), 1);
    }

    private static void tickOfZero() {
        SlabCache c = new SlabCache();
        c.store(0, 1, 1, 1);
        c.store(1, 1, 1, 0);
        for (int i = 0; i < 5; i++) {
            Checks.due("tick(0)", c.tick(0), 0);
        }
        Checks.due("tick(0): has(0)", c.has(0), 1);
        Checks.due("tick(0): tick(1)", c.tick(1), 1);
        Checks.due("tick(0) after the end", c.tick(0), 0);
        Checks.due("tick(0): has(1)", c.has(1), 1);
    }

    // "-1, and changes nothing, if time is not from 0 to 1000."
    private static void tickRefusesWrongTimes() {
        SlabCache c = new SlabCache();
        c.store(0, 1, 1, 1);
        int[] wrongTimes = {-1, -2, -1000, 1001, 1002, 2000, Checks.LEAST, Checks.GREATEST};
        for (int time : wrongTimes) {
            Checks.due("tick(" + time + ")", c.tick(time), -1);
            Checks.due("wrong tick: has(0)", c.has(0), 1);
        }
        // The clock stands where it was, so the end is one step away.
        c.store(1, 1, 1, 2);
        Checks.due("wrong tick: tick(1)", c.tick(1), 1);
        Checks.due("wrong tick: tick(1) again", c.tick(1), 1);
        Checks.due("greatest tick: tick(1000)", c.tick(1000), 0);
    }

    private static void endedItemsLeaveTheirCells() {
        SlabCache c = Checks.fullPages(8, 2);
        c.touch(3, 5);
        c.touch(4, 5);
        Checks.due("cells: tick(5)", c.tick(5), 2);
        Checks.duePages("cells", c, 0, 0, 8, 0);
        c.store(20, 12, 1, 0);
        c.store(21, 12, 1, 0);
        Checks.due("cells: items(2)", c.items(2), 8);
        Checks.due("cells: has(0)", c.has(0), 1);
        c.store(22, 12, 1, 0);
        Checks.dueOrder("cells, full", c, 2, 1, 2, 5, 6, 7, 20, 21, 22);
    }

    // "How many items of the sort there are"
    private static void itemsCountsEachSort() {
        SlabCache c = new SlabCache();
        Checks.dueItems("none", c, 0, 0, 0);
        Checks.fill(c, 0, 5, 1);
        Checks.dueItems("five", c, 5, 0, 0);
        Checks.fill(c, 10, 3, 6);
        Checks.fill(c, 20, 2, 7);
        Checks.dueItems("ten", c, 5, 3, 2);
        c.remove(10);
        Checks.dueItems("one removed", c, 5, 2, 2);
        for (int sort = 0; sort < 3; sort++) {
            SlabCache full = Checks.fullPages(8, sort);
            Checks.due("full: items(" + sort + ")", full.items(sort), 8 * Checks.CELLS[sort]);
        }
    }

    // "-1 if sort is not from 0 to 2" (items)
    private static void itemsRefusesWrongSorts() {
        int[] wrongSorts = {-1, -2, 3, 4, Checks.LEAST, Checks.GREATEST};
        for (int sort : wrongSorts) {
            Checks.due("new: items(" + sort + ")", new SlabCache().items(sort), -1);
            Checks.due("full: items(" + sort + ")", Checks.fullPages(8, 0).items(sort), -1);
        }
    }

    // "How many pages the sort has; for sort 3, how many are free"
    private static void pagesCountsEachSort() {
        SlabCache c = new SlabCache();
        Checks.duePages("new", c, 0, 0, 0, 8);
        Checks.fill(c, 0, 5, 1);
        Checks.duePages("sort 0", c, 2, 0, 0, 6);
        Checks.fill(c, 10, 5, 6);
        Checks.duePages("sort 1", c, 2, 3, 0, 3);
        Checks.fill(c, 20, 3, 7);
        Checks.duePages("sort 2", c, 2, 3, 3, 0);
        Checks.fill(c, 30, 3, 7);
        Checks.duePages("no page more", c, 2, 3, 3, 0);
        Checks.duePages("all of sort 0", Checks.fullPages(8, 0), 8, 0, 0, 0);
        Checks.duePages("all of sort 1", Checks.fullPages(8, 1), 0, 8, 0, 0);
        Checks.duePages("all of sort 2", Checks.fullPages(8, 2), 0, 0, 8, 0);
    }

    // "-1 if sort is not from 0 to 3"
    private static void pagesRefusesWrongSorts() {
        int[] wrongSorts = {-1, -2, 4, 5, Checks.LEAST, Checks.GREATEST};
        for (int sort : wrongSorts) {
            Checks.due("new: pages(" + sort + ")", new SlabCache().pages(sort), -1);
            Checks.due("full: pages(" + sort + ")", Checks.fullPages(8, 0).pages(sort), -1);
        }
    }

    // "The key of the item of the sort that was used longest ago"
    private static void oldestNamesTheLongestUnused() {
        SlabCache c = new SlabCache();
        c.store(200, 1, 1, 5);
        Checks.due("oldest(0) of one", c.oldest(0), 200);
        c.store(100, 1, 1, 0);
        c.store(255, 1, 1, 0);
        c.store(0, 1, 1, 0);
        Checks.due("oldest(0)", c.oldest(0), 200);
        Checks.due("oldest(0) again", c.oldest(0), 200);
        Checks.due("oldest: tick(5)", c.tick(5), 1);
        Checks.due("oldest(0) after tick", c.oldest(0), 100);
        c.touch(100, 0);
        Checks.due("oldest(0) after touch", c.oldest(0), 255);
        c.remove(255);
        Checks.due("oldest(0) after remove", c.oldest(0), 0);
        c.add(0, 1);
        Checks.due("oldest(0) after add", c.oldest(0), 100);
        c.swap(100, c.number(100), 1);
        Checks.due("oldest(0) after swap", c.oldest(0), 0);
        c.store(0, 4, 1, 0);
        Checks.due("oldest(0) after a move", c.oldest(0), 100);
        Checks.due("oldest(1) after a move", c.oldest(1), 0);
    }

    // "-1 if there is none"
    private static void oldestOfNoItem() {
        for (int sort = 0; sort < 3; sort++) {
            SlabCache c = new SlabCache();
            Checks.due("new: oldest(" + sort + ")", c.oldest(sort), -1);
            c.store(0, Checks.LONGEST[(sort + 1) % 3], 1, 0);
            c.store(255, Checks.LONGEST[(sort + 2) % 3], 1, 0);
            Checks.due("other sorts only: oldest(" + sort + ")", c.oldest(sort), -1);
            c.store(0, Checks.LONGEST[sort], 1, 1);
            Checks.due("key 0: oldest(" + sort + ")", c.oldest(sort), 0);
            c.tick(1);
            Checks.due("ended: oldest(" + sort + ")", c.oldest(sort), -1);
            c.store(255, Checks.LONGEST[sort], 1, 0);
            Checks.due("key 255: oldest(" + sort + ")", c.oldest(sort), 255);
            c.remove(255);
            Checks.due("removed: oldest(" + sort + ")", c.oldest(sort), -1);
        }
    }

    // "or sort is not from 0 to 2"
    private static void oldestRefusesWrongSorts() {
        int[] wrongSorts = {-1, -2, 3, 4, Checks.LEAST, Checks.GREATEST};
        for (int sort : wrongSorts) {
            Checks.due("new: oldest(" + sort + ")", new SlabCache().oldest(sort), -1);
            Checks.due("full: oldest(" + sort + ")", Checks.fullPages(8, 0).oldest(sort), -1);
        }
    }
}
