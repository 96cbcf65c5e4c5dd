/** Counts and prints the answers that are not as due; shared by the tests. */
final class Checks {
    static final int LEAST = Integer.MIN_VALUE;
    static final int GREATEST = Integer.MAX_VALUE;

    /** For each sort: its least and its greatest length, and the cells that a page of it has. */
    static final int[] SHORTEST = {1, 4, 7};
    static final int[] LONGEST = {3, 6, 12};
    static final int[] CELLS = {4, 2, 1};

    /** What is tested of two sorts that are not the same. */
    interface OnTwoSorts {
        void test(int one, int other);
    }

    private static int wrong = 0;

    private Checks() {
    }

    static void due(String what, long got, long want) {
        if (got != want) {
            wrong++;
            System.out.println(what + " answered " + got + ", due is " + want);
        }
    }

    static void fault(String what) {
        wrong++;
        System.out.println(what);
    }

    static boolean anyWrong() {
        return wrong != 0;
    }

    /** Ends the program with exit code 1 if any answer was wrong. */
    static void finish() {
        System.out.println(wrong == 0 ? "all as due" : wrong + " not as due");
        if (wrong != 0) {
            System.exit(1);
        }
    }

    /** A cache with count items of the length under the keys first, first + 1 and so on; each value is its key. */
    static SlabCache filled(int first, int count, int length) {
        SlabCache cache = new SlabCache();
        fill(cache, first, count, length);
        return cache;
    }

    static void fill(SlabCache cache, int first, int count, int length) {
        for (int key = first; key < first + count; key++) {
            if (cache.store(key, length, key, 0) < 1) {
                fault("store(" + key + ", " + length + ", " + key + ", 0) was refused while filling");
            }
        }
    }

    /** A cache in which every cell of so many pages of the sort has an item, under the keys from 0 on. */
    static SlabCache fullPages(int pages, int sort) {
        return filled(0, pages * CELLS[sort], LONGEST[sort]);
    }

    static void forEachTwoSorts(OnTwoSorts test) {
        for (int one = 0; one < 3; one++) {
            for (int other = 0; other < 3; other++) {
                if (one != other) {
                    test.test(one, other);
                }
            }
        }
    }

    static void duePages(String when, SlabCache cache, int sort0, int sort1, int sort2, int free) {
        due(when + ": pages(0)", cache.pages(0), sort0);
        due(when + ": pages(1)", cache.pages(1), sort1);
        due(when + ": pages(2)", cache.pages(2), sort2);
        due(when + ": pages(3)", cache.pages(3), free);
    }

    static void dueItems(String when, SlabCache cache, int sort0, int sort1, int sort2) {
        due(when + ": items(0)", cache.items(0), sort0);
        due(when + ": items(1)", cache.items(1), sort1);
        due(when + ": items(2)", cache.items(2), sort2);
    }

    /** Every call that takes a key answers as if there were no item with it. */
    static void dueNone(String when, SlabCache cache, int key) {
        due(when + ": has(" + key + ")", cache.has(key), 0);
        due(when + ": number(" + key + ")", cache.number(key), -1);
        due(when + ": get(" + key + ")", cache.get(key), 0);
        due(when + ": swap(" + key + ", -1, 5)", cache.swap(key, -1, 5), -1);
        due(when + ": swap(" + key + ", 1, 5)", cache.swap(key, 1, 5), -1);
        due(when + ": add(" + key + ", 5)", cache.add(key, 5), 0);
        due(when + ": touch(" + key + ", 5)", cache.touch(key, 5), 0);
        due(when + ": remove(" + key + ")", cache.remove(key), 0);
    }

    /** The items of the sort are these, the longest unused first; the look removes them all. */
    static void dueOrder(String when, SlabCache cache, int sort, int... keys) {
        due(when + ": items(" + sort + ")", cache.items(sort), keys.length);
        for (int key : keys) {
            due(when + ": oldest(" + sort + ")", cache.oldest(sort), key);
            due(when + ": remove(" + key + ")", cache.remove(key), 1);
        }
        due(when + ": oldest(" + sort + ") of none", cache.oldest(sort), -1);
    }
}
