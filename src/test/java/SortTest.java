/** Promises 10 to 13: tick, items, pages and oldest. */
public final class SortTest {
    private static final int LEAST = Integer.MIN_VALUE;
    private static final int GREATEST = Integer.MAX_VALUE;

    public static void main(String[] args) {
        tickCountsWhatIsGone();
        tickOfZero();
        tickRefusesWrongTimes();
        tickGoesFar();
        goneItemsLeaveTheirCells();
        itemsCountsEachSort();
        pagesCountsEachSort();
        oldestNamesTheLongestUnused();
        Checks.finish();
    }

    private static void tickCountsWhatIsGone() {
        SlabCache c = new SlabCache();
        c.store(0, 1, 1, 1);
        c.store(1, 4, 1, 2);
        c.store(2, 7, 1, 2);
        c.store(3, 1, 1, 3);
        c.store(255, 1, 1, 1000);
        c.store(4, 1, 1, 0);
        Checks.due("tick(1)", c.tick(1), 1);
        Checks.dueItems("tick(1)", c, 3, 1, 1);
        Checks.due("tick(2)", c.tick(2), 3);
        Checks.dueItems("tick(2)", c, 2, 0, 0);
        Checks.due("tick(996)", c.tick(996), 0);
        Checks.due("tick(1) at 999", c.tick(1), 1);
        Checks.due("tick(1000)", c.tick(1000), 0);
        Checks.due("tick: has(4)", c.has(4), 1);
    }

    private static void tickOfZero() {
        SlabCache c = new SlabCache();
        c.store(0, 1, 1, 1);
        Checks.due("tick(0)", c.tick(0), 0);
        Checks.due("tick(0): has(0)", c.has(0), 1);
        Checks.due("tick(0): tick(1)", c.tick(1), 1);
        Checks.due("tick(0) when all is gone", c.tick(0), 0);
    }

    private static void tickRefusesWrongTimes() {
        SlabCache c = new SlabCache();
        c.store(0, 1, 1, 1);
        int[] wrongTimes = {-1, 1001, LEAST, GREATEST};
        for (int time : wrongTimes) {
            Checks.due("tick(" + time + ")", c.tick(time), -1);
            Checks.due("wrong tick: has(0)", c.has(0), 1);
        }
        // The clock stands where it was, so the end is one step away.
        c.store(1, 1, 1, 2);
        Checks.due("wrong tick: tick(1)", c.tick(1), 1);
        Checks.due("wrong tick: tick(1) again", c.tick(1), 1);
    }

    private static void tickGoesFar() {
        SlabCache c = new SlabCache();
        c.store(9, 1, 1, 0);
        for (int i = 0; i < 500; i++) {
            c.tick(1000);
        }
        c.store(1, 1, 1, 1000);
        Checks.due("far: tick(999)", c.tick(999), 0);
        Checks.due("far: tick(1)", c.tick(1), 1);
        Checks.due("far: has(9)", c.has(9), 1);
    }

    private static void goneItemsLeaveTheirCells() {
        SlabCache c = new SlabCache();
        for (int key = 0; key < 8; key++) {
            c.store(key, 12, key, key < 2 ? 5 : 0);
        }
        Checks.due("cells: tick(5)", c.tick(5), 2);
        Checks.duePages("cells", c, 0, 0, 8, 0);
        Checks.due("cells: get(0)", c.get(0), 0);
        Checks.due("cells: number(0)", c.number(0), -1);
        Checks.due("cells: remove(0)", c.remove(0), 0);
        Checks.due("cells: oldest(2)", c.oldest(2), 2);
        c.store(20, 12, 1, 0);
        c.store(21, 12, 1, 0);
        Checks.due("cells: items(2)", c.items(2), 8);
        Checks.due("cells: has(2)", c.has(2), 1);
        c.store(22, 12, 1, 0);
        Checks.due("cells: has(2) when full", c.has(2), 0);
    }

    private static void itemsCountsEachSort() {
        SlabCache c = Checks.filled(0, 5, 1);
        Checks.fill(c, 10, 3, 6);
        Checks.fill(c, 20, 2, 7);
        Checks.dueItems("items", c, 5, 3, 2);
        int[] wrongSorts = {-1, 3, 4, LEAST, GREATEST};
        for (int sort : wrongSorts) {
            Checks.due("items(" + sort + ")", c.items(sort), -1);
        }
    }

    private static void pagesCountsEachSort() {
        SlabCache c = Checks.filled(0, 5, 1);
        Checks.fill(c, 10, 3, 6);
        Checks.fill(c, 20, 2, 7);
        Checks.duePages("pages", c, 2, 2, 2, 2);
        int[] wrongSorts = {-1, 4, 5, LEAST, GREATEST};
        for (int sort : wrongSorts) {
            Checks.due("pages(" + sort + ")", c.pages(sort), -1);
        }
    }

    private static void oldestNamesTheLongestUnused() {
        SlabCache c = new SlabCache();
        c.store(200, 1, 1, 5);
        c.store(100, 1, 1, 0);
        c.store(255, 1, 1, 0);
        c.store(0, 1, 1, 0);
        Checks.due("oldest(0)", c.oldest(0), 200);
        Checks.due("oldest(0) again", c.oldest(0), 200);
        Checks.due("oldest: tick(5)", c.tick(5), 1);
        Checks.due("oldest(0) after tick", c.oldest(0), 100);
        c.touch(100, 0);
        Checks.due("oldest(0) after touch", c.oldest(0), 255);
        c.remove(255);
        Checks.due("oldest(0) after remove", c.oldest(0), 0);
        c.add(0, 1);
        Checks.due("oldest(0) after add", c.oldest(0), 100);
        c.swap(100, c.number(100), 1);
        Checks.due("oldest(0) after swap", c.oldest(0), 0);
        c.store(0, 4, 1, 0);
        Checks.due("oldest(0) after a move", c.oldest(0), 100);
        Checks.due("oldest(1) after a move", c.oldest(1), 0);
        int[] wrongSorts = {-1, 3, 4, LEAST, GREATEST};
        for (int sort : wrongSorts) {
            Checks.due("oldest(" + sort + ")", c.oldest(sort), -1);
        }
        Checks.due("oldest(2) of none", c.oldest(2), -1);
    }
}
