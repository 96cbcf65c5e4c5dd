import java.util.LinkedHashMap;
import java.util.Map;
import java.util.function.Consumer;
import java.util.function.Supplier;

/**
 * Calls that change nothing: the refused ones, those that find no item, and
 * those that only tell something. Each is made in many states, and the object
 * must look the same after it as one on which it was not made.
 */
public final class UnchangedTest {
    private static final int NO_ITEM = 99;
    private static final int NEVER_GIVEN = 9999;
    private static final Map<String, Supplier<SlabCache>> STATES = states();

    public static void main(String[] args) {
        refusedStores();
        storesWithoutRoom();
        refusedTouches();
        refusedTicks();
        swapsWithAnotherNumber();
        callsOnNoItem();
        callsThatOnlyTell();
        tickOfZero();
        Checks.finish();
    }

    // Promise 2: "-1, and changes nothing"
    private static void refusedStores() {
        int[][] wrong = {
            {-1, 1, 0}, {256, 1, 0}, {257, 12, 3}, {Checks.LEAST, 4, 0}, {Checks.GREATEST, 7, 0},
            {1, 0, 0}, {1, 13, 0}, {1, -1, 3}, {1, Checks.LEAST, 0}, {1, Checks.GREATEST, 0},
            {1, 2, -1}, {1, 2, 1001}, {1, 5, -1}, {1, 12, 1001}, {1, 2, Checks.LEAST}, {1, 2, Checks.GREATEST},
            {NO_ITEM, 1, -1}, {NO_ITEM, 4, 1001}, {NO_ITEM, 0, 0}, {NO_ITEM, 13, 0}, {-1, 0, -1}, {256, 13, 1001},
        };
        for (int[] w : wrong) {
            String call = "store(" + w[0] + ", " + w[1] + ", 9, " + w[2] + ")";
            changesNothing(call, c -> Checks.due(call, c.store(w[0], w[1], 9, w[2]), -1));
        }
    }

    // Promise 2: "-2, and changes nothing, if there is no room"
    private static void storesWithoutRoom() {
        for (int sort = 0; sort < 3; sort++) {
            for (int length = 1; length <= 12; length++) {
                if (length < Checks.SHORTEST[sort] || length > Checks.LONGEST[sort]) {
                    storeWithoutRoom(sort, 0, length);
                    storeWithoutRoom(sort, 3, length);
                    storeWithoutRoom(sort, NO_ITEM, length);
                }
            }
        }
    }

    private static void storeWithoutRoom(int fullOf, int key, int length) {
        String call = "store(" + key + ", " + length + ", 9, 2)";
        Supplier<SlabCache> state = STATES.get("full of sort " + fullOf);
        looksTheSame("full of sort " + fullOf, state, call, c -> Checks.due(call, c.store(key, length, 9, 2), -2));
    }

    // Promise 8: "-1, and changes nothing, if time is not from 0 to 1000"
    private static void refusedTouches() {
        int[] keys = {0, 1, 2, 3, 4, 255, NO_ITEM, -1, 256};
        int[] wrongTimes = {-1, 1001, Checks.LEAST, Checks.GREATEST};
        for (int key : keys) {
            for (int time : wrongTimes) {
                String call = "touch(" + key + ", " + time + ")";
                changesNothing(call, c -> Checks.due(call, c.touch(key, time), -1));
            }
        }
    }

    // Promise 10: "-1, and changes nothing, if time is not from 0 to 1000"
    private static void refusedTicks() {
        int[] wrongTimes = {-1, -5, 1001, 1002, Checks.LEAST, Checks.GREATEST};
        for (int time : wrongTimes) {
            String call = "tick(" + time + ")";
            changesNothing(call, c -> Checks.due(call, c.tick(time), -1));
        }
    }

    // Promise 6: "0 if it has another number; -1 if there is none (nothing is changed in these cases)"
    private static void swapsWithAnotherNumber() {
        int[] numbers = {Checks.LEAST, -1, 0, NEVER_GIVEN, Checks.GREATEST};
        int[] keys = {0, 1, 2, 3, 4, 255, NO_ITEM, -1, 256};
        for (int key : keys) {
            for (int number : numbers) {
                changesNothing("swap(" + key + ", " + number + ", 9)", c -> c.swap(key, number, 9));
            }
            changesNothing("swap(" + key + ", its number - 1, 9)", c -> c.swap(key, c.number(key) - 1, 9));
            changesNothing("swap(" + key + ", its number + 1, 9)", c -> c.swap(key, c.number(key) + 1, 9));
        }
    }

    // Promises 3 and 7 to 9: "0 if there is none"
    private static void callsOnNoItem() {
        int[] keys = {NO_ITEM, -1, 256, 257, Checks.LEAST, Checks.GREATEST};
        for (int key : keys) {
            STATES.forEach((name, state) -> callsOnNoItem(name, state, key));
        }
        int[] goneKeys = {0, 4};
        for (int key : goneKeys) {
            callsOnNoItem("some gone", STATES.get("some gone"), key);
        }
    }

    private static void callsOnNoItem(String name, Supplier<SlabCache> state, int key) {
        looksTheSame(name, state, "get(" + key + ")", c -> Checks.due("get of none", c.get(key), 0));
        looksTheSame(name, state, "add(" + key + ", 5)", c -> Checks.due("add to none", c.add(key, 5), 0));
        looksTheSame(name, state, "touch(" + key + ", 0)", c -> Checks.due("touch of none", c.touch(key, 0), 0));
        looksTheSame(name, state, "touch(" + key + ", 5)", c -> Checks.due("touch of none", c.touch(key, 5), 0));
        looksTheSame(name, state, "remove(" + key + ")", c -> Checks.due("remove of none", c.remove(key), 0));
        looksTheSame(name, state, "swap(" + key + ", 4, 9)", c -> Checks.due("swap of none", c.swap(key, 4, 9), -1));
    }

    // Promises 4 and 5: "It is not used by that." Promises 11 to 13 tell only.
    private static void callsThatOnlyTell() {
        int[] keys = {0, 1, 2, 3, 4, 255, NO_ITEM, -1, 256, Checks.LEAST, Checks.GREATEST};
        for (int key : keys) {
            changesNothing("has(" + key + ")", c -> c.has(key));
            changesNothing("number(" + key + ")", c -> c.number(key));
        }
        int[] sorts = {0, 1, 2, 3, 4, -1, Checks.LEAST, Checks.GREATEST};
        for (int sort : sorts) {
            changesNothing("items(" + sort + ")", c -> c.items(sort));
            changesNothing("pages(" + sort + ")", c -> c.pages(sort));
            changesNothing("oldest(" + sort + ")", c -> c.oldest(sort));
        }
    }

    // Promise 10: a clock that grows by 0 stands.
    private static void tickOfZero() {
        changesNothing("tick(0)", c -> Checks.due("tick(0)", c.tick(0), 0));
    }

    private static void changesNothing(String call, Consumer<SlabCache> calling) {
        STATES.forEach((name, state) -> looksTheSame(name, state, call, calling));
    }

    private static void looksTheSame(String name, Supplier<SlabCache> state, String call, Consumer<SlabCache> calling) {
        SlabCache touched = state.get();
        calling.accept(touched);
        dueSame(name, call, whatIsThere(touched), whatIsThere(state.get()));
        SlabCache ticked = state.get();
        calling.accept(ticked);
        dueSame(name, call, whenItEnds(ticked), whenItEnds(state.get()));
    }

    private static void dueSame(String name, String call, String got, String want) {
        if (!got.equals(want)) {
            Checks.fault(name + ": " + call + " changed something; it looks like\n  " + got + "\ndue is\n  " + want);
        }
    }

    /** Counts, numbers, order of use, values and the next number; the look uses the object up. */
    private static String whatIsThere(SlabCache c) {
        StringBuilder seen = new StringBuilder();
        for (int sort = 0; sort <= 3; sort++) {
            seen.append(c.items(sort)).append('/').append(c.pages(sort)).append(' ');
        }
        for (int key = 0; key < 256; key++) {
            int number = c.number(key);
            seen.append(number == -1 ? "" : key + "#" + number + " ");
        }
        for (int sort = 0; sort < 3; sort++) {
            seen.append("; sort ").append(sort).append(':');
            for (int key = c.oldest(sort); key != -1 && seen.length() < 5000; key = c.oldest(sort)) {
                seen.append(' ').append(key).append('=').append(c.get(key));
                c.remove(key);
            }
        }
        int next = 0;
        for (int sort = 0; sort < 3; sort++) {
            next = Math.max(next, c.store(50, Checks.LONGEST[sort], 1, 0));
        }
        return seen.append("; next number ").append(next).toString();
    }

    /** What is gone at each of the next ticks; the states have ends up to 8, and 1000. */
    private static String whenItEnds(SlabCache c) {
        StringBuilder seen = new StringBuilder();
        for (int i = 1; i <= 9; i++) {
            seen.append(c.tick(1)).append(':');
            for (int key = 0; key < 32; key++) {
                seen.append(c.has(key));
            }
            seen.append(c.has(255)).append(' ');
        }
        return seen.append(c.tick(990)).append(' ').append(c.tick(1)).append(' ').append(c.tick(1000)).toString();
    }

    private static Map<String, Supplier<SlabCache>> states() {
        Map<String, Supplier<SlabCache>> states = new LinkedHashMap<>();
        states.put("new", SlabCache::new);
        states.put("a few items", UnchangedTest::aFewItems);
        states.put("some gone", UnchangedTest::someGone);
        for (int sort = 0; sort < 3; sort++) {
            int s = sort;
            states.put("full of sort " + s, () -> fullOf(s));
        }
        states.put("full of all sorts", UnchangedTest::fullOfAllSorts);
        return states;
    }

    private static SlabCache aFewItems() {
        SlabCache c = new SlabCache();
        c.store(1, 2, 10, 0);
        c.store(2, 3, 20, 5);
        c.store(3, 5, 30, 0);
        c.store(4, 12, 40, 3);
        c.store(0, 1, 50, 8);
        c.store(255, 1, 60, 1000);
        c.get(1);
        return c;
    }

    private static SlabCache someGone() {
        SlabCache c = aFewItems();
        c.add(2, 7);
        c.remove(0);
        c.tick(3);
        c.store(5, 4, -1, 2);
        c.store(1, 7, 11, 4);
        return c;
    }

    private static SlabCache fullOf(int sort) {
        SlabCache c = Checks.fullPages(8, sort);
        c.touch(0, 4);
        c.touch(2, 8);
        c.get(1);
        return c;
    }

    private static SlabCache fullOfAllSorts() {
        SlabCache c = Checks.filled(0, 12, 2);
        Checks.fill(c, 12, 6, 5);
        Checks.fill(c, 18, 2, 8);
        c.touch(3, 6);
        c.add(13, 100);
        c.touch(18, 1);
        return c;
    }
}
