/** Promise 14, and NUMBERS under "Terms": which calls give an item the next number, and which do not. */
public final class NumberTest {
    public static void main(String[] args) {
        eachStoreGivesTheNextNumber();
        swapGivesTheNextNumberIfItAnswersOne();
        addGivesTheNextNumberIfItFindsTheItem();
        sameValueGetsTheNextNumber();
        refusedStoresTakeNoNumber();
        otherCallsGiveNoNumber();
        numbersRunOverAllSorts();
        numbersGoOnAfterAnItemIsGone();
        Checks.finish();
    }

    // "each store give the item the next number": in a new cell, in its old one, in another sort, in place of another
    private static void eachStoreGivesTheNextNumber() {
        SlabCache c = new SlabCache();
        Checks.due("a new cell: store(1, 1, 5, 0)", c.store(1, 1, 5, 0), 1);
        dueNumber(c, 1);
        Checks.due("its old cell: store(1, 3, 6, 0)", c.store(1, 3, 6, 0), 2);
        dueNumber(c, 2);
        Checks.due("another sort: store(1, 12, 7, 0)", c.store(1, 12, 7, 0), 3);
        dueNumber(c, 3);
        SlabCache full = Checks.filled(2, 8, 12);
        Checks.due("in place of another: store(1, 12, 5, 0)", full.store(1, 12, 5, 0), 9);
        dueNumber(full, 9);
    }

    private static void dueNumber(SlabCache c, int want) {
        Checks.due("number(1)", c.number(1), want);
    }

    // "A swap that answers 1"
    private static void swapGivesTheNextNumberIfItAnswersOne() {
        SlabCache c = Checks.filled(1, 2, 1);
        Checks.due("swap(1, 1, 9)", c.swap(1, 1, 9), 1);
        dueNumber(c, 3);
        Checks.due("swap(1, 1, 9) again", c.swap(1, 1, 9), 0);
        dueNumber(c, 3);
        Checks.due("swap(5, 3, 9)", c.swap(5, 3, 9), -1);
        Checks.due("swap(1, 3, 9)", c.swap(1, 3, 9), 1);
        dueNumber(c, 4);
        Checks.due("swap: number(2)", c.number(2), 2);
    }

    // "an add that finds the item"
    private static void addGivesTheNextNumberIfItFindsTheItem() {
        SlabCache c = Checks.filled(1, 2, 1);
        Checks.due("add(1, 4)", c.add(1, 4), 5);
        dueNumber(c, 3);
        Checks.due("add(5, 4)", c.add(5, 4), 0);
        Checks.due("add(256, 4)", c.add(256, 4), 0);
        Checks.due("add(1, -5)", c.add(1, -5), 0);
        dueNumber(c, 4);
        Checks.due("add: number(2)", c.number(2), 2);
    }

    // "also if its value is the same then as it was before"
    private static void sameValueGetsTheNextNumber() {
        SlabCache c = new SlabCache();
        Checks.due("store(1, 1, 5, 0)", c.store(1, 1, 5, 0), 1);
        Checks.due("store(1, 1, 5, 0), the same", c.store(1, 1, 5, 0), 2);
        Checks.due("same: number(1)", c.number(1), 2);
        Checks.due("swap(1, 2, 5)", c.swap(1, 2, 5), 1);
        Checks.due("same: number(1) after swap", c.number(1), 3);
        Checks.due("add(1, 0)", c.add(1, 0), 5);
        Checks.due("same: number(1) after add", c.number(1), 4);
        Checks.due("swap(1, 3, 5), the old number", c.swap(1, 3, 5), 0);
        Checks.due("same: number(1) after a refused swap", c.number(1), 4);
    }

    // Promise 2: a store that answers -1 or -2 "changes nothing", so the row stands.
    private static void refusedStoresTakeNoNumber() {
        SlabCache c = Checks.fullPages(8, 2);
        Checks.due("no room: store(50, 1, 5, 0)", c.store(50, 1, 5, 0), -2);
        Checks.due("no room: store(1, 4, 5, 0)", c.store(1, 4, 5, 0), -2);
        Checks.due("refused: store(256, 12, 5, 0)", c.store(256, 12, 5, 0), -1);
        Checks.due("refused: store(1, 13, 5, 0)", c.store(1, 13, 5, 0), -1);
        Checks.due("refused: store(1, 12, 5, 1001)", c.store(1, 12, 5, 1001), -1);
        Checks.due("refused: number(1)", c.number(1), 2);
        Checks.due("refused: the next number", c.store(50, 12, 5, 0), 9);
    }

    private static void otherCallsGiveNoNumber() {
        SlabCache c = new SlabCache();
        c.store(1, 1, 5, 0);
        c.get(1);
        c.has(1);
        c.number(1);
        c.touch(1, 7);
        c.tick(1);
        c.items(0);
        c.pages(0);
        c.oldest(0);
        c.swap(1, 9, 9);
        c.swap(2, 1, 9);
        c.add(2, 9);
        c.touch(2, 7);
        c.remove(2);
        c.store(2, 0, 1, 0);
        Checks.due("no number: number(1)", c.number(1), 1);
        Checks.due("no number: the next one", c.store(2, 1, 1, 0), 2);
    }

    private static void numbersRunOverAllSorts() {
        SlabCache c = new SlabCache();
        Checks.due("sorts: store(1, 1, 5, 0)", c.store(1, 1, 5, 0), 1);
        Checks.due("sorts: store(2, 4, 5, 0)", c.store(2, 4, 5, 0), 2);
        Checks.due("sorts: store(3, 7, 5, 0)", c.store(3, 7, 5, 0), 3);
        c.add(2, 1);
        Checks.due("sorts: number(2)", c.number(2), 4);
        Checks.due("sorts: swap(1, 1, 6)", c.swap(1, 1, 6), 1);
        Checks.due("sorts: number(1)", c.number(1), 5);
        Checks.due("sorts: number(3)", c.number(3), 3);
        Checks.due("sorts: store(3, 1, 5, 0)", c.store(3, 1, 5, 0), 6);
    }

    private static void numbersGoOnAfterAnItemIsGone() {
        SlabCache c = new SlabCache();
        c.store(1, 1, 5, 2);
        c.tick(2);
        Checks.due("gone: store(1, 1, 5, 0)", c.store(1, 1, 5, 0), 2);
        c.remove(1);
        Checks.due("gone: store(1, 1, 5, 0) again", c.store(1, 1, 5, 0), 3);
    }
}
