/** Promises 3 to 9: get, has, number, swap, add, touch and remove; sentences are quoted over their tests. */
public final class ItemTest {
    private static final int[] WRONG_TIMES = {-1, -1000, 1001, 1002, Checks.LEAST, Checks.GREATEST};

    public static void main(String[] args) {
        getAnswersTheValue();
        getUses();
        hasTells();
        numberTells();
        hasAndNumberDoNotUse();
        swapWithTheNumber();
        swapUses();
        swapKeepsTheEnd();
        swapWithAnotherNumber();
        swapOfNoItem();
        addAnswersTheValueThen();
        addWraps();
        addKeepsTheEnd();
        touchSetsTheEnd();
        touchTakesTheEndAway();
        touchChangesTheEndAlone();
        touchRefusesWrongTimes();
        touchTestsTheTimeFirst();
        removeTakesTheItemAway();
        removeFreesTheCell();
        noItemInAnyWay();
        keysOutOfRangeHaveNoItem();
        Checks.finish();
    }

    // "The value of the item with the key"
    private static void getAnswersTheValue() {
        SlabCache c = new SlabCache();
        c.store(1, 1, 11, 0);
        c.store(2, 4, -22, 0);
        c.store(3, 7, 0, 0);
        Checks.due("get(1)", c.get(1), 11);
        Checks.due("get(2)", c.get(2), -22);
        Checks.due("get(3)", c.get(3), 0);
        Checks.due("get(1) again", c.get(1), 11);
        Checks.due("get(4)", c.get(4), 0);
        c.store(1, 1, 12, 0);
        Checks.due("get(1), stored anew", c.get(1), 12);
    }

    // "which is used by that; 0 if there is none"
    private static void getUses() {
        SlabCache c = Checks.filled(1, 3, 5);
        c.get(1);
        Checks.due("get: oldest(1)", c.oldest(1), 2);
        c.get(2);
        Checks.due("get: oldest(1) then", c.oldest(1), 3);
        Checks.due("get: number(1)", c.number(1), 1);
        Checks.due("get(9)", c.get(9), 0);
        Checks.due("get: has(9)", c.has(9), 0);
        Checks.dueOrder("get", c, 1, 3, 1, 2);
        // What is used stays when room is made.
        SlabCache full = Checks.fullPages(8, 2);
        full.get(0);
        full.store(100, 12, 1, 0);
        Checks.due("get in a full sort: has(0)", full.has(0), 1);
        Checks.due("get in a full sort: has(1)", full.has(1), 0);
    }

    // "1 if there is an item with the key, else 0."
    private static void hasTells() {
        SlabCache c = new SlabCache();
        Checks.due("has(0), new", c.has(0), 0);
        c.store(0, 1, 0, 0);
        Checks.due("has(0), value 0", c.has(0), 1);
        Checks.due("has(1)", c.has(1), 0);
        c.store(1, 12, -1, 5);
        Checks.due("has(1), value -1", c.has(1), 1);
        c.remove(0);
        Checks.due("has(0), removed", c.has(0), 0);
    }

    // "The number of the item with the key; -1 if there is none."
    private static void numberTells() {
        SlabCache c = Checks.filled(1, 2, 1);
        Checks.due("number(1)", c.number(1), 1);
        Checks.due("number(2)", c.number(2), 2);
        Checks.due("number(3)", c.number(3), -1);
        c.remove(1);
        Checks.due("number(1), removed", c.number(1), -1);
        c.store(1, 1, 1, 0);
        Checks.due("number(1), stored anew", c.number(1), 3);
    }

    // "It is not used by that." (has and number)
    private static void hasAndNumberDoNotUse() {
        SlabCache full = Checks.fullPages(8, 2);
        Checks.due("has(0)", full.has(0), 1);
        Checks.due("number(0)", full.number(0), 1);
        Checks.due("has(1)", full.has(1), 1);
        Checks.due("number(1)", full.number(1), 2);
        Checks.due("not used: oldest(2)", full.oldest(2), 0);
        full.store(100, 12, 1, 0);
        Checks.due("not used: has(0)", full.has(0), 0);
        Checks.dueOrder("not used", full, 2, 1, 2, 3, 4, 5, 6, 7, 100);
    }

    // "If the item with the key has the number, its value becomes value: answers 1"
    private static void swapWithTheNumber() {
        SlabCache c = Checks.filled(1, 2, 1);
        Checks.due("swap(1, 1, 50)", c.swap(1, 1, 50), 1);
        Checks.due("swap: get(1)", c.get(1), 50);
        Checks.due("swap: number(1)", c.number(1), 3);
        Checks.due("swap: number(2)", c.number(2), 2);
        Checks.due("swap: get(2)", c.get(2), 2);
        Checks.due("swap(1, 1, 60), its number no more", c.swap(1, 1, 60), 0);
        Checks.due("swap(1, 3, 60)", c.swap(1, 3, 60), 1);
        Checks.due("swap: get(1) then", c.get(1), 60);
        c.add(1, 1);
        Checks.due("swap(1, 4, 70), after an add", c.swap(1, 4, 70), 0);
        Checks.due("swap(1, 5, 70)", c.swap(1, 5, 70), 1);
        c.store(1, 12, 1, 0);
        Checks.due("swap(1, 6, 80), after a store", c.swap(1, 6, 80), 0);
        Checks.due("swap(1, 7, 80)", c.swap(1, 7, 80), 1);
        c.touch(1, 9);
        Checks.due("swap(1, 8, 90), after a touch", c.swap(1, 8, 90), 1);
        Checks.due("swap: get(1) at last", c.get(1), 90);
    }

    // "(and it is used by that)"
    private static void swapUses() {
        SlabCache full = Checks.fullPages(8, 2);
        Checks.due("swap(0, 1, 9)", full.swap(0, 1, 9), 1);
        Checks.due("swap: oldest(2)", full.oldest(2), 1);
        full.store(100, 12, 1, 0);
        Checks.dueOrder("swap in a full sort", full, 2, 2, 3, 4, 5, 6, 7, 0, 100);
    }

    private static void swapKeepsTheEnd() {
        SlabCache c = new SlabCache();
        c.store(3, 1, 3, 4);
        c.tick(1);
        Checks.due("swap(3, 1, 5)", c.swap(3, 1, 5), 1);
        Checks.due("swap: tick(2)", c.tick(2), 0);
        Checks.due("swap: tick(1)", c.tick(1), 1);
        Checks.due("swap(3, 2, 1), gone", c.swap(3, 2, 1), -1);
    }

    // "0 if it has another number" (that nothing is changed is in UnchangedTest, too)
    private static void swapWithAnotherNumber() {
        SlabCache c = Checks.filled(1, 3, 1);
        int[] others = {1, 3, 0, -1, -2, 4, 2 + 256, Checks.LEAST, Checks.GREATEST};
        for (int other : others) {
            Checks.due("swap(2, " + other + ", 9)", c.swap(2, other, 9), 0);
            Checks.due("other number: number(2)", c.number(2), 2);
        }
        Checks.due("swap(1, 2, 9)", c.swap(1, 2, 9), 0);
        Checks.due("other number: oldest(0)", c.oldest(0), 1);
        Checks.due("other number: get(2)", c.get(2), 2);
        Checks.due("other number: the next number", c.store(4, 1, 1, 0), 4);
        Checks.dueOrder("other number", c, 0, 1, 3, 2, 4);
    }

    // "-1 if there is none"
    private static void swapOfNoItem() {
        SlabCache c = Checks.filled(1, 1, 1);
        int[] numbers = {1, 2, 0, -1, Checks.LEAST, Checks.GREATEST};
        for (int number : numbers) {
            Checks.due("swap(3, " + number + ", 9)", c.swap(3, number, 9), -1);
        }
        Checks.due("swap of none: has(3)", c.has(3), 0);
        c.remove(1);
        Checks.due("swap(1, 1, 9), removed", c.swap(1, 1, 9), -1);
        Checks.due("swap of none: the next number", c.store(1, 1, 1, 0), 2);
    }

    // "Answers the value then; 0 if there is none."
    private static void addAnswersTheValueThen() {
        SlabCache c = Checks.filled(1, 2, 8);
        Checks.due("add(1, 41)", c.add(1, 41), 42);
        Checks.due("add: oldest(2)", c.oldest(2), 2);
        Checks.due("add: get(1)", c.get(1), 42);
        Checks.due("add(1, -42)", c.add(1, -42), 0);
        Checks.due("add: has(1)", c.has(1), 1);
        Checks.due("add(1, -1)", c.add(1, -1), -1);
        Checks.due("add(1, 0)", c.add(1, 0), -1);
        Checks.due("add: get(2)", c.get(2), 2);
        Checks.due("add(5, 7)", c.add(5, 7), 0);
        Checks.due("add: has(5)", c.has(5), 0);
        Checks.due("add: the next number", c.store(6, 8, 1, 0), 7);
    }

    // "Adds amount (wrapping) to the value"
    private static void addWraps() {
        int[][] sums = {
            {Checks.GREATEST - 1, 1, Checks.GREATEST},
            {Checks.GREATEST, 1, Checks.LEAST},
            {Checks.GREATEST, Checks.GREATEST, -2},
            {Checks.LEAST + 1, -1, Checks.LEAST},
            {Checks.LEAST, -1, Checks.GREATEST},
            {Checks.LEAST, Checks.LEAST, 0},
            {Checks.LEAST, Checks.GREATEST, -1},
            {0, Checks.LEAST, Checks.LEAST},
            {-1, Checks.LEAST, Checks.GREATEST},
        };
        for (int[] sum : sums) {
            SlabCache c = new SlabCache();
            c.store(0, 1, sum[0], 0);
            Checks.due(sum[0] + ": add(0, " + sum[1] + ")", c.add(0, sum[1]), sum[2]);
            Checks.due(sum[0] + ", added " + sum[1] + ": get(0)", c.get(0), sum[2]);
        }
    }

    private static void addKeepsTheEnd() {
        SlabCache c = new SlabCache();
        c.store(7, 8, 1, 3);
        c.tick(1);
        c.add(7, 1);
        Checks.due("add: tick(1)", c.tick(1), 0);
        Checks.due("add: tick(1) again", c.tick(1), 1);
    }

    // "The end of the item with the key becomes clock + time" ... "Answers 1"
    private static void touchSetsTheEnd() {
        int[] oldTimes = {0, 5, 900};
        int[] times = {1, 2, 999, 1000};
        for (int oldTime : oldTimes) {
            for (int time : times) {
                SlabCache c = new SlabCache();
                c.store(1, 1, 7, oldTime);
                c.tick(4);
                String when = "stored for " + oldTime + ", touch(1, " + time + ")";
                Checks.due(when, c.touch(1, time), 1);
                Checks.due(when + ": tick before the end", c.tick(time - 1), 0);
                Checks.due(when + ": has(1) before the end", c.has(1), 1);
                Checks.due(when + ": tick to the end", c.tick(1), 1);
                Checks.due(when + ": has(1) at the end", c.has(1), 0);
            }
        }
    }

    // "or none if time is 0"
    private static void touchTakesTheEndAway() {
        int[] oldTimes = {0, 5, 1000};
        for (int oldTime : oldTimes) {
            SlabCache c = new SlabCache();
            c.store(1, 1, 7, oldTime);
            c.tick(4);
            Checks.due("stored for " + oldTime + ": touch(1, 0)", c.touch(1, 0), 1);
            Checks.due("no end: has(1)", c.has(1), 1);
            Checks.due("no end: tick(1)", c.tick(1), 0);
            Checks.due("no end: tick(1000)", c.tick(1000), 0);
            Checks.due("no end: get(1)", c.get(1), 7);
        }
    }

    private static void touchChangesTheEndAlone() {
        SlabCache c = Checks.filled(1, 2, 1);
        c.touch(1, 5);
        Checks.due("touch: number(1)", c.number(1), 1);
        Checks.due("touch: oldest(0)", c.oldest(0), 2);
        Checks.due("touch: get(1)", c.get(1), 1);
        Checks.due("touch: the next number", c.store(9, 1, 1, 0), 3);
        Checks.due("touch: tick(5)", c.tick(5), 1);
        Checks.due("touch: has(2)", c.has(2), 1);
    }

    // "-1, and changes nothing, if time is not from 0 to 1000"
    private static void touchRefusesWrongTimes() {
        SlabCache c = new SlabCache();
        c.store(1, 1, 1, 5);
        c.store(2, 1, 2, 0);
        for (int time : WRONG_TIMES) {
            Checks.due("touch(1, " + time + ")", c.touch(1, time), -1);
            Checks.due("touch(2, " + time + ")", c.touch(2, time), -1);
            Checks.due("wrong time: oldest(0)", c.oldest(0), 1);
        }
        Checks.due("wrong time: tick(4)", c.tick(4), 0);
        Checks.due("wrong time: tick(1)", c.tick(1), 1);
        Checks.due("wrong time: tick(1000)", c.tick(1000), 0);
        Checks.due("wrong time: has(2)", c.has(2), 1);
    }

    // "(tested first)" and "0 if there is none"
    private static void touchTestsTheTimeFirst() {
        SlabCache c = Checks.filled(1, 1, 1);
        int[] keys = {3, -1, 256, Checks.LEAST, Checks.GREATEST};
        for (int key : keys) {
            for (int time : WRONG_TIMES) {
                Checks.due("touch(" + key + ", " + time + ")", c.touch(key, time), -1);
            }
            Checks.due("touch(" + key + ", 0)", c.touch(key, 0), 0);
            Checks.due("touch(" + key + ", 1)", c.touch(key, 1), 0);
            Checks.due("touch(" + key + ", 1000)", c.touch(key, 1000), 0);
            Checks.due("touch: has(" + key + ")", c.has(key), 0);
        }
    }

    // "The item with the key is gone. Answers 1, or 0 if there is none."
    private static void removeTakesTheItemAway() {
        SlabCache c = Checks.filled(1, 4, 1);
        Checks.due("remove(5), none", c.remove(5), 0);
        Checks.due("remove(2)", c.remove(2), 1);
        Checks.due("remove(2) again", c.remove(2), 0);
        Checks.dueNone("remove", c, 2);
        c.store(5, 1, 1, 3);
        c.remove(5);
        Checks.due("remove: tick(3)", c.tick(3), 0);
        Checks.dueOrder("remove", c, 0, 1, 3, 4);
    }

    private static void removeFreesTheCell() {
        for (int sort = 0; sort < 3; sort++) {
            SlabCache c = Checks.fullPages(8, sort);
            int count = 8 * Checks.CELLS[sort];
            Checks.due("remove(3)", c.remove(3), 1);
            Checks.due("remove: items(" + sort + ")", c.items(sort), count - 1);
            Checks.due("remove: pages(" + sort + ")", c.pages(sort), 8);
            Checks.due("remove: pages(3)", c.pages(3), 0);
            c.store(100, Checks.LONGEST[sort], 1, 0);
            Checks.due("cell taken again: has(0)", c.has(0), 1);
            c.store(101, Checks.LONGEST[sort], 1, 0);
            Checks.due("one too many: has(0)", c.has(0), 0);
            Checks.due("one too many: items(" + sort + ")", c.items(sort), count);
        }
    }

    private static void noItemInAnyWay() {
        SlabCache c = Checks.fullPages(8, 2);
        Checks.dueNone("never stored", c, 100);
        c.store(101, 12, 1, 0);
        Checks.dueNone("given up", c, 0);
        c.remove(1);
        Checks.dueNone("removed", c, 1);
        c.touch(2, 3);
        c.tick(3);
        Checks.dueNone("ended", c, 2);
        Checks.due("store(102, 1, 1, 0), no room", c.store(102, 1, 1, 0), -2);
        Checks.dueNone("no room", c, 102);
        Checks.due("store(103, 13, 1, 0)", c.store(103, 13, 1, 0), -1);
        Checks.dueNone("refused", c, 103);
        Checks.dueOrder("the others", c, 2, 3, 4, 5, 6, 7, 101);
    }

    private static void keysOutOfRangeHaveNoItem() {
        SlabCache c = new SlabCache();
        // Items at both ends of the range, for a key that is wrapped or masked into it.
        c.store(0, 1, 5, 0);
        c.store(255, 1, 6, 0);
        c.store(1, 1, 7, 0);
        int[] wrongKeys = {-1, -2, -255, -256, 256, 257, 511, 512, Checks.LEAST, Checks.GREATEST};
        for (int key : wrongKeys) {
            Checks.dueNone("out of range", c, key);
        }
        Checks.due("out of range: tick(5)", c.tick(5), 0);
        Checks.due("out of range: get(0)", c.get(0), 5);
        Checks.due("out of range: get(255)", c.get(255), 6);
        Checks.due("out of range: get(1)", c.get(1), 7);
    }
}
