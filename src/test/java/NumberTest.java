/** Promise 14: which calls give an item the next number, and which do not. */
public final class NumberTest {
    public static void main(String[] args) {
        sameValueGetsTheNextNumber();
        otherCallsGiveNoNumber();
        numbersRunOverAllSorts();
        numbersGoOnAfterAnItemIsGone();
        Checks.finish();
    }

    private static void sameValueGetsTheNextNumber() {
        SlabCache c = new SlabCache();
        Checks.due("store(1, 1, 5, 0)", c.store(1, 1, 5, 0), 1);
        Checks.due("store(1, 1, 5, 0), the same", c.store(1, 1, 5, 0), 2);
        Checks.due("same: number(1)", c.number(1), 2);
        Checks.due("swap(1, 2, 5)", c.swap(1, 2, 5), 1);
        Checks.due("same: number(1) after swap", c.number(1), 3);
        Checks.due("add(1, 0)", c.add(1, 0), 5);
        Checks.due("same: number(1) after add", c.number(1), 4);
        Checks.due("swap(1, 3, 5), the old number", c.swap(1, 3, 5), 0);
        Checks.due("same: number(1) after a refused swap", c.number(1), 4);
    }

    private static void otherCallsGiveNoNumber() {
        SlabCache c = new SlabCache();
        c.store(1, 1, 5, 0);
        c.get(1);
        c.has(1);
        c.number(1);
        c.touch(1, 7);
        c.tick(1);
        c.items(0);
        c.pages(0);
        c.oldest(0);
        c.swap(1, 9, 9);
        c.swap(2, 1, 9);
        c.add(2, 9);
        c.touch(2, 7);
        c.remove(2);
        c.store(2, 0, 1, 0);
        Checks.due("no number: number(1)", c.number(1), 1);
        Checks.due("no number: the next one", c.store(2, 1, 1, 0), 2);
    }

    private static void numbersRunOverAllSorts() {
        SlabCache c = new SlabCache();
        Checks.due("sorts: store(1, 1, 5, 0)", c.store(1, 1, 5, 0), 1);
        Checks.due("sorts: store(2, 4, 5, 0)", c.store(2, 4, 5, 0), 2);
        Checks.due("sorts: store(3, 7, 5, 0)", c.store(3, 7, 5, 0), 3);
        c.add(2, 1);
        Checks.due("sorts: number(2)", c.number(2), 4);
        Checks.due("sorts: swap(1, 1, 6)", c.swap(1, 1, 6), 1);
        Checks.due("sorts: number(1)", c.number(1), 5);
        Checks.due("sorts: number(3)", c.number(3), 3);
        Checks.due("sorts: store(3, 1, 5, 0)", c.store(3, 1, 5, 0), 6);
    }

    private static void numbersGoOnAfterAnItemIsGone() {
        SlabCache c = new SlabCache();
        c.store(1, 1, 5, 2);
        c.tick(2);
        Checks.due("gone: store(1, 1, 5, 0)", c.store(1, 1, 5, 0), 2);
        c.remove(1);
        Checks.due("gone: store(1, 1, 5, 0) again", c.store(1, 1, 5, 0), 3);
    }
}
