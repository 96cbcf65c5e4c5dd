/** Promises 3 to 9: get, has, number, swap, add, touch and remove. */
public final class ItemTest {
    private static final int LEAST = Integer.MIN_VALUE;
    private static final int GREATEST = Integer.MAX_VALUE;
    private static final int[] WRONG_KEYS = {-1, 256, 511, LEAST, GREATEST};

    public static void main(String[] args) {
        getAnswersAndUses();
        hasDoesNotUse();
        numberDoesNotUse();
        swapWithTheNumber();
        swapWithAnotherNumber();
        addAnswersAndUses();
        addWraps();
        touchSetsTheEndAndUses();
        touchTestsTheTimeFirst();
        removeTakesTheItemAway();
        usesAreKeptApartBySort();
        keysWithoutAnItem();
        Checks.finish();
    }

    private static void getAnswersAndUses() {
        SlabCache c = Checks.filled(1, 3, 5);
        Checks.due("get(1)", c.get(1), 1);
        Checks.due("get: oldest(1)", c.oldest(1), 2);
        Checks.due("get(2)", c.get(2), 2);
        Checks.due("get: oldest(1) then", c.oldest(1), 3);
        Checks.due("get: number(1)", c.number(1), 1);
        Checks.due("get: the next number", c.store(4, 5, 0, 0), 4);
        // A get that finds no item uses none.
        Checks.due("get(9)", c.get(9), 0);
        Checks.due("get: oldest(1) still", c.oldest(1), 3);
        Checks.due("get: has(9)", c.has(9), 0);
    }

    private static void hasDoesNotUse() {
        SlabCache c = Checks.filled(1, 2, 1);
        Checks.due("has(1)", c.has(1), 1);
        Checks.due("has: oldest(0)", c.oldest(0), 1);
        Checks.due("has(0)", c.has(0), 0);
        Checks.due("has: number(1)", c.number(1), 1);
        c.store(0, 1, 0, 0);
        Checks.due("has(0), value 0", c.has(0), 1);
    }

    private static void numberDoesNotUse() {
        SlabCache c = Checks.filled(1, 2, 1);
        Checks.due("number(1)", c.number(1), 1);
        Checks.due("number(2)", c.number(2), 2);
        Checks.due("number: oldest(0)", c.oldest(0), 1);
        Checks.due("number(3)", c.number(3), -1);
        c.remove(1);
        Checks.due("number(1), removed", c.number(1), -1);
        c.store(1, 1, 1, 0);
        Checks.due("number(1), stored anew", c.number(1), 3);
    }

    private static void swapWithTheNumber() {
        SlabCache c = Checks.filled(1, 2, 1);
        Checks.due("swap(1, 1, 50)", c.swap(1, 1, 50), 1);
        Checks.due("swap: number(1)", c.number(1), 3);
        Checks.due("swap: oldest(0)", c.oldest(0), 2);
        Checks.due("swap: get(1)", c.get(1), 50);
        Checks.due("swap: number(2)", c.number(2), 2);
        // The end stays as it was.
        c.store(3, 1, 3, 4);
        c.tick(1);
        Checks.due("swap(3, 4, LEAST)", c.swap(3, 4, LEAST), 1);
        Checks.due("swap: tick(2)", c.tick(2), 0);
        Checks.due("swap: tick(1)", c.tick(1), 1);
        Checks.due("swap(3, 5, 1), gone", c.swap(3, 5, 1), -1);
    }

    private static void swapWithAnotherNumber() {
        SlabCache c = Checks.filled(1, 2, 1);
        int[] others = {0, 2, 3, -1, LEAST, GREATEST};
        for (int other : others) {
            Checks.due("swap(1, " + other + ", 9)", c.swap(1, other, 9), 0);
            Checks.due("other number: number(1)", c.number(1), 1);
            Checks.due("other number: oldest(0)", c.oldest(0), 1);
        }
        Checks.due("swap(3, -1, 9)", c.swap(3, -1, 9), -1);
        Checks.due("swap(3, 0, 9)", c.swap(3, 0, 9), -1);
        Checks.due("other number: has(3)", c.has(3), 0);
        Checks.due("other number: get(1)", c.get(1), 1);
        Checks.due("other number: the next number", c.store(4, 1, 1, 0), 3);
    }

    private static void addAnswersAndUses() {
        SlabCache c = Checks.filled(1, 2, 8);
        Checks.due("add(1, 41)", c.add(1, 41), 42);
        Checks.due("add: oldest(2)", c.oldest(2), 2);
        Checks.due("add: number(1)", c.number(1), 3);
        Checks.due("add: get(1)", c.get(1), 42);
        Checks.due("add(1, -42)", c.add(1, -42), 0);
        Checks.due("add: has(1)", c.has(1), 1);
        Checks.due("add(5, 7)", c.add(5, 7), 0);
        Checks.due("add: has(5)", c.has(5), 0);
        Checks.due("add: the next number", c.store(6, 8, 1, 0), 5);
        // The end stays as it was.
        c.store(7, 8, 1, 2);
        c.tick(1);
        c.add(7, 1);
        Checks.due("add: tick(1)", c.tick(1), 1);
    }

    private static void addWraps() {
        SlabCache c = new SlabCache();
        c.store(0, 1, GREATEST, 0);
        Checks.due("add(0, 1)", c.add(0, 1), LEAST);
        Checks.due("add(0, -1)", c.add(0, -1), GREATEST);
        Checks.due("add(0, GREATEST)", c.add(0, GREATEST), -2);
        Checks.due("add(0, LEAST)", c.add(0, LEAST), GREATEST - 1);
        Checks.due("wrapped: get(0)", c.get(0), GREATEST - 1);
    }

    private static void touchSetsTheEndAndUses() {
        SlabCache c = new SlabCache();
        c.store(1, 1, 11, 5);
        c.store(2, 1, 12, 0);
        c.store(3, 1, 13, 5);
        c.store(4, 1, 14, 900);
        c.tick(4);
        Checks.due("touch(1, 0)", c.touch(1, 0), 1);
        Checks.due("touch: oldest(0)", c.oldest(0), 2);
        Checks.due("touch(2, 1)", c.touch(2, 1), 1);
        Checks.due("touch(3, 1000)", c.touch(3, 1000), 1);
        Checks.due("touch(4, 2)", c.touch(4, 2), 1);
        Checks.due("touch: number(1)", c.number(1), 1);
        Checks.due("touch: tick(1)", c.tick(1), 1);
        Checks.due("touch: has(2)", c.has(2), 0);
        Checks.due("touch: tick(1) again", c.tick(1), 1);
        Checks.due("touch: has(4)", c.has(4), 0);
        Checks.due("touch: tick(997)", c.tick(997), 0);
        Checks.due("touch: tick(1) at the end", c.tick(1), 1);
        Checks.due("touch: has(3)", c.has(3), 0);
        Checks.due("touch: get(1)", c.get(1), 11);
        Checks.due("touch: the next number", c.store(9, 1, 1, 0), 5);
    }

    private static void touchTestsTheTimeFirst() {
        SlabCache c = new SlabCache();
        c.store(1, 1, 1, 5);
        c.store(2, 1, 2, 0);
        int[] wrongTimes = {-1, 1001, LEAST, GREATEST};
        for (int time : wrongTimes) {
            Checks.due("touch(1, " + time + ")", c.touch(1, time), -1);
            Checks.due("touch(3, " + time + ")", c.touch(3, time), -1);
            Checks.due("touch(-1, " + time + ")", c.touch(-1, time), -1);
            Checks.due("wrong time: oldest(0)", c.oldest(0), 1);
        }
        Checks.due("touch(3, 0)", c.touch(3, 0), 0);
        Checks.due("touch(3, 1000)", c.touch(3, 1000), 0);
        Checks.due("wrong time: has(3)", c.has(3), 0);
        Checks.due("wrong time: tick(4)", c.tick(4), 0);
        Checks.due("wrong time: tick(1)", c.tick(1), 1);
    }

    private static void removeTakesTheItemAway() {
        SlabCache c = Checks.filled(1, 4, 1);
        Checks.due("remove(1)", c.remove(1), 1);
        Checks.due("remove(1) again", c.remove(1), 0);
        Checks.due("remove: has(1)", c.has(1), 0);
        Checks.due("remove: get(1)", c.get(1), 0);
        Checks.due("remove: add(1, 1)", c.add(1, 1), 0);
        Checks.due("remove: touch(1, 1)", c.touch(1, 1), 0);
        Checks.due("remove: swap(1, 1, 1)", c.swap(1, 1, 1), -1);
        Checks.due("remove: items(0)", c.items(0), 3);
        Checks.due("remove: oldest(0)", c.oldest(0), 2);
        Checks.duePages("remove", c, 1, 0, 0, 7);
        c.store(5, 1, 1, 3);
        c.remove(5);
        Checks.due("remove: tick(3)", c.tick(3), 0);
        Checks.due("remove: items(0) then", c.items(0), 3);
    }

    private static void usesAreKeptApartBySort() {
        SlabCache c = Checks.filled(10, 2, 1);
        Checks.fill(c, 20, 2, 4);
        Checks.fill(c, 30, 2, 7);
        c.get(20);
        Checks.due("apart: oldest(0)", c.oldest(0), 10);
        Checks.due("apart: oldest(1)", c.oldest(1), 21);
        Checks.due("apart: oldest(2)", c.oldest(2), 30);
    }

    private static void keysWithoutAnItem() {
        SlabCache c = new SlabCache();
        // Items at both ends of the range, for a key that is wrapped or masked into it.
        c.store(0, 1, 5, 0);
        c.store(255, 1, 6, 0);
        for (int key : WRONG_KEYS) {
            Checks.due("get(" + key + ")", c.get(key), 0);
            Checks.due("has(" + key + ")", c.has(key), 0);
            Checks.due("number(" + key + ")", c.number(key), -1);
            Checks.due("swap(" + key + ", 1, 1)", c.swap(key, 1, 1), -1);
            Checks.due("swap(" + key + ", 2, 1)", c.swap(key, 2, 1), -1);
            Checks.due("add(" + key + ", 1)", c.add(key, 1), 0);
            Checks.due("touch(" + key + ", 1)", c.touch(key, 1), 0);
            Checks.due("remove(" + key + ")", c.remove(key), 0);
        }
        Checks.due("wrong keys: items(0)", c.items(0), 2);
        Checks.due("wrong keys: tick(1)", c.tick(1), 0);
        Checks.due("wrong keys: get(0)", c.get(0), 5);
        Checks.due("wrong keys: get(255)", c.get(255), 6);
    }
}
