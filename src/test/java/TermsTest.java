import java.util.function.Consumer;

/** The sentences under "Terms", which the promises lean on; each is quoted over the tests that hold it. */
public final class TermsTest {
    public static void main(String[] args) {
        lengthTellsTheSort();
        eightPagesAndNoNinth();
        pagesStayWithTheirSort();
        pagesHaveTheirCells();
        everyItemTakesOneCell();
        everyKeyCanHaveAnItem();
        noTwoItemsHaveTheSameKey();
        theValueIsAnyInt();
        thereUpToTheEndAndGoneAtIt();
        goneWhenTheClockJumpsOverTheEnd();
        withoutAnEndNeverGone();
        eachUseMakesTheLastUsed();
        aUseIsOneOfItsSort();
        aFreeCellNeedsNothing();
        aFreePageComesBeforeGivingUp();
        theLongestUnusedIsGoneWhenNoPageIsFree();
        Checks.forEachTwoSorts(TermsTest::noRoomWithoutPageAndItem);
        numbersBeginWithOne();
        theLastPromisedCallAnswers();
        Checks.finish();
    }

    // "Items of length 1 to 3 are of sort 0, of 4 to 6 of sort 1, of 7 to 12 of sort 2."
    // (Lengths 0 and 13, outside "from 1 to 12", are in StoreTest.)
    private static void lengthTellsTheSort() {
        int[] sorts = {0, 0, 0, 1, 1, 1, 2, 2, 2, 2, 2, 2};
        for (int length = 1; length <= 12; length++) {
            SlabCache c = new SlabCache();
            c.store(9, length, 1, 0);
            for (int sort = 0; sort < 3; sort++) {
                int want = sorts[length - 1] == sort ? 1 : 0;
                Checks.due("length " + length + ": items(" + sort + ")", c.items(sort), want);
                Checks.due("length " + length + ": pages(" + sort + ")", c.pages(sort), want);
                Checks.due("length " + length + ": oldest(" + sort + ")", c.oldest(sort), want == 1 ? 9 : -1);
            }
        }
    }

    // "There are 8 PAGES, all free at the start"
    private static void eightPagesAndNoNinth() {
        for (int sort = 0; sort < 3; sort++) {
            SlabCache c = Checks.fullPages(7, sort);
            Checks.due("7 pages: pages(3)", c.pages(3), 1);
            Checks.fill(c, 100, Checks.CELLS[sort], Checks.LONGEST[sort]);
            Checks.due("8 pages: pages(" + sort + ")", c.pages(sort), 8);
            Checks.due("8 pages: pages(3)", c.pages(3), 0);
            Checks.due("8 pages: has(0)", c.has(0), 1);
            c.store(200, Checks.LONGEST[sort], 1, 0);
            Checks.due("no 9th page: pages(" + sort + ")", c.pages(sort), 8);
            Checks.due("no 9th page: pages(3)", c.pages(3), 0);
            Checks.due("no 9th page: items(" + sort + ")", c.items(sort), 8 * Checks.CELLS[sort]);
        }
    }

    // "a page that is given to a sort stays with it for ever"
    private static void pagesStayWithTheirSort() {
        for (int sort = 0; sort < 3; sort++) {
            SlabCache removed = Checks.fullPages(8, sort);
            for (int key = 0; key < 8 * Checks.CELLS[sort]; key++) {
                removed.remove(key);
            }
            dueEmptyPages("removed", removed, sort);
            SlabCache ended = Checks.fullPages(8, sort);
            for (int key = 0; key < 8 * Checks.CELLS[sort]; key++) {
                ended.touch(key, 1);
            }
            ended.tick(1);
            dueEmptyPages("ended", ended, sort);
        }
        SlabCache moved = Checks.filled(0, 1, 1);
        moved.store(0, 4, 0, 0);
        moved.store(0, 7, 0, 0);
        Checks.dueItems("moved", moved, 0, 0, 1);
        Checks.duePages("moved", moved, 1, 1, 1, 5);
    }

    private static void dueEmptyPages(String when, SlabCache c, int sort) {
        Checks.dueItems(when, c, 0, 0, 0);
        Checks.duePages(when, c, sort == 0 ? 8 : 0, sort == 1 ? 8 : 0, sort == 2 ? 8 : 0, 0);
        for (int other = 0; other < 3; other++) {
            int answer = c.store(90, Checks.SHORTEST[other], 1, 0);
            if (other == sort ? answer < 1 : answer != -2) {
                Checks.fault(when + " of sort " + sort + ": a store of sort " + other + " answered " + answer);
            }
        }
    }

    // "a page of sort 0 has 4 CELLS, of sort 1 has 2, of sort 2 has 1"
    private static void pagesHaveTheirCells() {
        for (int sort = 0; sort < 3; sort++) {
            SlabCache c = new SlabCache();
            int cells = Checks.CELLS[sort];
            for (int i = 0; i < 8 * cells; i++) {
                c.store(i, Checks.SHORTEST[sort], i, 0);
                Checks.due("item " + i + ": pages(" + sort + ")", c.pages(sort), i / cells + 1);
                Checks.due("item " + i + ": pages(3)", c.pages(3), 7 - i / cells);
                Checks.due("item " + i + ": items(" + sort + ")", c.items(sort), i + 1);
            }
        }
    }

    // "Every item takes one cell of its sort."
    private static void everyItemTakesOneCell() {
        SlabCache c = new SlabCache();
        int[] lengths = {1, 2, 3, 3, 4, 6, 7, 12};
        for (int i = 0; i < lengths.length; i++) {
            c.store(i, lengths[i], 1, 0);
        }
        Checks.dueItems("one cell each", c, 4, 2, 2);
        Checks.duePages("one cell each", c, 1, 1, 2, 4);
        c.store(20, 1, 1, 0);
        c.store(21, 5, 1, 0);
        c.store(22, 9, 1, 0);
        Checks.duePages("one cell more each", c, 2, 2, 3, 1);
    }

    // "AN ITEM has a KEY (0 to 255"
    private static void everyKeyCanHaveAnItem() {
        SlabCache c = new SlabCache();
        for (int key = 0; key < 256; key++) {
            Checks.due("store(" + key + ", 1, 1, 0)", c.store(key, 1, 1, 0), key + 1);
        }
        Checks.due("store(256, 1, 1, 0)", c.store(256, 1, 1, 0), -1);
        Checks.due("store(-1, 1, 1, 0)", c.store(-1, 1, 1, 0), -1);
        Checks.due("all keys: items(0)", c.items(0), 32);
        Checks.due("all keys: number(255)", c.number(255), 256);
        Checks.due("all keys: number(224)", c.number(224), 225);
        Checks.due("all keys: number(223)", c.number(223), -1);
        Checks.due("all keys: remove(255)", c.remove(255), 1);
        SlabCache d = Checks.filled(0, 1, 1);
        Checks.due("key 0: add(0, 5)", d.add(0, 5), 5);
        Checks.due("key 0: touch(0, 1)", d.touch(0, 1), 1);
        Checks.due("key 0: remove(0)", d.remove(0), 1);
    }

    // "no two items have the same key"
    private static void noTwoItemsHaveTheSameKey() {
        SlabCache c = new SlabCache();
        int[] lengths = {1, 3, 4, 6, 7, 12, 1, 7, 4};
        int[] sorts = {0, 0, 1, 1, 2, 2, 0, 2, 1};
        for (int i = 0; i < lengths.length; i++) {
            c.store(5, lengths[i], i, 0);
            Checks.dueItems("store " + i, c, sorts[i] == 0 ? 1 : 0, sorts[i] == 1 ? 1 : 0, sorts[i] == 2 ? 1 : 0);
            Checks.due("store " + i + ": get(5)", c.get(5), i);
        }
        Checks.due("same key: remove(5)", c.remove(5), 1);
        Checks.dueItems("same key, removed", c, 0, 0, 0);
        Checks.dueNone("same key, removed", c, 5);
    }

    // "a VALUE (any int)"
    private static void theValueIsAnyInt() {
        int[] values = {Checks.LEAST, Checks.LEAST + 1, -2, -1, 0, 1, Checks.GREATEST - 1, Checks.GREATEST};
        for (int value : values) {
            SlabCache c = new SlabCache();
            Checks.due("store(3, 1, " + value + ", 0)", c.store(3, 1, value, 0), 1);
            Checks.due("stored: get(3)", c.get(3), value);
            c.store(4, 1, 77, 0);
            Checks.due("swap(4, 2, " + value + ")", c.swap(4, 2, value), 1);
            Checks.due("swapped: get(4)", c.get(4), value);
            c.store(5, 1, 0, 0);
            Checks.due("add(5, " + value + ")", c.add(5, value), value);
            Checks.due("added: get(5)", c.get(5), value);
        }
    }

    // "An item whose end is not greater than the clock is gone at once."
    private static void thereUpToTheEndAndGoneAtIt() {
        SlabCache c = endsAtTen();
        Checks.due("end 10, clock 9: has(5)", c.has(5), 1);
        Checks.due("end 10, clock 9: number(5)", c.number(5), 1);
        Checks.due("end 10, clock 9: swap(5, 1, 8)", c.swap(5, 1, 8), 1);
        Checks.due("end 10, clock 9: get(5)", c.get(5), 8);
        Checks.due("end 10, clock 9: add(5, 1)", c.add(5, 1), 9);
        Checks.due("end 10, clock 9: items(1)", c.items(1), 1);
        Checks.due("end 10, clock 9: oldest(1)", c.oldest(1), 5);
        Checks.due("end 10, clock 9: tick(1)", c.tick(1), 1);
        Checks.dueNone("end 10, clock 10", c, 5);
        Checks.dueItems("end 10, clock 10", c, 0, 0, 0);
        Checks.due("end 10, clock 10: oldest(1)", c.oldest(1), -1);
        Checks.due("end 10, clock 9: touch(5, 2)", endsAtTen().touch(5, 2), 1);
        Checks.due("end 10, clock 9: remove(5)", endsAtTen().remove(5), 1);
    }

    private static SlabCache endsAtTen() {
        SlabCache c = new SlabCache();
        c.tick(4);
        c.store(5, 4, 7, 6);
        c.tick(5);
        return c;
    }

    private static void goneWhenTheClockJumpsOverTheEnd() {
        int[] steps = {2, 999, 1000};
        for (int step : steps) {
            SlabCache c = new SlabCache();
            c.store(5, 4, 7, 1);
            Checks.due("end 1: tick(" + step + ")", c.tick(step), 1);
            Checks.dueNone("end 1, clock " + step, c, 5);
        }
    }

    // "an END (a time, or none)"
    private static void withoutAnEndNeverGone() {
        SlabCache c = new SlabCache();
        c.store(5, 4, 7, 0);
        for (int i = 0; i < 500; i++) {
            Checks.due("no end: tick(1000)", c.tick(1000), 0);
        }
        Checks.due("no end: get(5)", c.get(5), 7);
    }

    // "storing an item, and each of get, add and touch that finds it, makes it the last used one of its sort"
    private static void eachUseMakesTheLastUsed() {
        for (int key = 1; key <= 3; key++) {
            int k = key;
            dueUse("store(" + k + ", 3, 1, 0)", k, c -> c.store(k, 3, 1, 0));
            dueUse("get(" + k + ")", k, c -> c.get(k));
            dueUse("add(" + k + ", 0)", k, c -> c.add(k, 0));
            dueUse("touch(" + k + ", 0)", k, c -> c.touch(k, 0));
            dueUse("touch(" + k + ", 1000)", k, c -> c.touch(k, 1000));
            // Promise 6 adds swap: "answers 1 (and it is used by that)".
            dueUse("swap(" + k + ", " + k + ", 1)", k, c -> c.swap(k, k, 1));
        }
        SlabCache moved = Checks.filled(1, 3, 1);
        moved.store(9, 4, 1, 0);
        moved.store(9, 1, 1, 0);
        Checks.dueOrder("moved here", moved, 0, 1, 2, 3, 9);
        SlabCache anew = Checks.filled(1, 3, 1);
        anew.remove(1);
        anew.store(1, 1, 1, 0);
        Checks.dueOrder("stored anew", anew, 0, 2, 3, 1);
    }

    private static void dueUse(String call, int key, Consumer<SlabCache> use) {
        SlabCache c = Checks.filled(1, 3, 2);
        use.accept(c);
        int first = key == 1 ? 2 : 1;
        Checks.dueOrder("after " + call, c, 0, first, 6 - key - first, key);
    }

    // "Items of the same sort are in an order of last use"
    private static void aUseIsOneOfItsSort() {
        SlabCache c = Checks.filled(10, 2, 1);
        Checks.fill(c, 20, 2, 4);
        Checks.fill(c, 30, 2, 7);
        c.get(20);
        Checks.dueOrder("get(20)", c, 0, 10, 11);
        Checks.dueOrder("get(20)", c, 1, 21, 20);
        Checks.dueOrder("get(20)", c, 2, 30, 31);
    }

    // "if a cell of the sort is free, nothing need be done"
    private static void aFreeCellNeedsNothing() {
        for (int sort = 0; sort < 3; sort++) {
            int full = 2 * Checks.CELLS[sort];
            for (int free = 0; free < full; free++) {
                SlabCache c = Checks.fullPages(2, sort);
                c.remove(free);
                c.store(100, Checks.SHORTEST[sort], 1, 0);
                Checks.due("cell " + free + " free: pages(" + sort + ")", c.pages(sort), 2);
                Checks.due("cell " + free + " free: pages(3)", c.pages(3), 6);
                Checks.due("cell " + free + " free: items(" + sort + ")", c.items(sort), full);
            }
        }
        SlabCache none = Checks.fullPages(8, 0);
        none.remove(17);
        none.store(100, 1, 1, 0);
        Checks.due("free cell, no free page: has(0)", none.has(0), 1);
        Checks.due("free cell, no free page: items(0)", none.items(0), 32);
    }

    // "else if a page is free, it is given to the sort"
    private static void aFreePageComesBeforeGivingUp() {
        for (int sort = 0; sort < 3; sort++) {
            for (int pages = 0; pages < 8; pages++) {
                SlabCache c = Checks.fullPages(pages, sort);
                c.store(100, Checks.LONGEST[sort], 1, 0);
                String when = pages + " pages full";
                Checks.due(when + ": pages(" + sort + ")", c.pages(sort), pages + 1);
                Checks.due(when + ": pages(3)", c.pages(3), 7 - pages);
                Checks.due(when + ": items(" + sort + ")", c.items(sort), pages * Checks.CELLS[sort] + 1);
            }
        }
    }

    // "else if there are items of the sort, the one that was used longest ago is gone"
    private static void theLongestUnusedIsGoneWhenNoPageIsFree() {
        for (int sort = 0; sort < 3; sort++) {
            SlabCache c = Checks.fullPages(8, sort);
            c.get(0);
            c.touch(2, 0);
            c.store(100, Checks.LONGEST[sort], 1, 0);
            Checks.dueNone("full, sort " + sort, c, 1);
            Checks.due("full: has(0)", c.has(0), 1);
            Checks.due("full: items(" + sort + ")", c.items(sort), 8 * Checks.CELLS[sort]);
            c.store(101, Checks.LONGEST[sort], 1, 0);
            Checks.due("full, once more: has(3)", c.has(3), 0);
            Checks.due("full, once more: has(2)", c.has(2), 1);
            Checks.due("full, once more: has(4)", c.has(4), 1);
        }
        // The one that is gone is of the sort, even if another sort's was used longer ago.
        SlabCache d = Checks.filled(0, 1, 1);
        Checks.fill(d, 1, 7, 12);
        d.store(9, 12, 1, 0);
        Checks.due("other sort older: has(0)", d.has(0), 1);
        Checks.dueOrder("other sort older", d, 2, 2, 3, 4, 5, 6, 7, 9);
    }

    // "else there is no room"
    private static void noRoomWithoutPageAndItem(int sort, int other) {
        SlabCache c = Checks.fullPages(8, sort);
        Checks.due("full of sort " + sort + ": a store of sort " + other,
            c.store(100, Checks.SHORTEST[other], 1, 0), -2);
        // One page of the sort, with its items, is enough for room.
        SlabCache d = Checks.fullPages(7, sort);
        Checks.fill(d, 200, Checks.CELLS[other], Checks.LONGEST[other]);
        Checks.due("a page of sort " + other + ": pages(3)", d.pages(3), 0);
        int next = 7 * Checks.CELLS[sort] + Checks.CELLS[other] + 1;
        Checks.due("a page of sort " + other + ": store", d.store(100, Checks.SHORTEST[other], 1, 0), next);
        Checks.due("a page of sort " + other + ": has(200)", d.has(200), 0);
    }

    // "it gets the next number of a row that begins with 1" (which calls give one is in NumberTest)
    private static void numbersBeginWithOne() {
        for (int sort = 0; sort < 3; sort++) {
            SlabCache c = new SlabCache();
            Checks.due("the first number", c.store(5, Checks.SHORTEST[sort], 0, 0), 1);
            Checks.due("the second number", c.store(5, Checks.LONGEST[sort], 0, 0), 2);
            Checks.due("the third number", c.store(6, Checks.LONGEST[sort], 0, 0), 3);
        }
    }

    // "An object is used for at most 512 calls"
    private static void theLastPromisedCallAnswers() {
        SlabCache stores = new SlabCache();
        SlabCache adds = Checks.filled(0, 1, 1);
        SlabCache ticks = Checks.filled(0, 1, 1);
        for (int call = 1; call <= 510; call++) {
            stores.store(call % 256, 1, call, 0);
            adds.add(0, 1);
        }
        Checks.due("call 511: store", stores.store(511 % 256, 1, 511, 0), 511);
        Checks.due("call 512: oldest(0)", stores.oldest(0), 480 % 256);
        Checks.due("call 512: number(0)", adds.number(0), 511);
        for (int call = 2; call <= 508; call++) {
            ticks.tick(1000);
        }
        ticks.store(1, 1, 1, 1000);
        Checks.due("call 510: tick(999)", ticks.tick(999), 0);
        Checks.due("call 511: tick(1)", ticks.tick(1), 1);
        Checks.due("call 512: get(1)", ticks.get(1), 0);
    }
}
