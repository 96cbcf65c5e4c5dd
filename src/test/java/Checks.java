/** Counts and prints the answers that are not as due; shared by the tests. */
final class Checks {
    private static int wrong = 0;

    private Checks() {
    }

    static void due(String what, long got, long want) {
        if (got != want) {
            wrong++;
            System.out.println(what + " answered " + got + ", due is " + want);
        }
    }

    static void fault(String what) {
        wrong++;
        System.out.println(what);
    }

    static boolean anyWrong() {
        return wrong != 0;
    }

    /** Ends the program with exit code 1 if any answer was wrong. */
    static void finish() {
        System.out.println(wrong == 0 ? "all as due" : wrong + " not as due");
        if (wrong != 0) {
            System.exit(1);
        }
    }

    /** A cache with count items of the length under the keys first, first + 1 and so on; each value is its key. */
    static SlabCache filled(int first, int count, int length) {
        SlabCache cache = new SlabCache();
        fill(cache, first, count, length);
        return cache;
    }

    static void fill(SlabCache cache, int first, int count, int length) {
        for (int key = first; key < first + count; key++) {
            if (cache.store(key, length, key, 0) < 1) {
                fault("store(" + key + ", " + length + ", " + key + ", 0) was refused while filling");
            }
        }
    }

    static void duePages(String when, SlabCache cache, int sort0, int sort1, int sort2, int free) {
        due(when + ": pages(0)", cache.pages(0), sort0);
        due(when + ": pages(1)", cache.pages(1), sort1);
        due(when + ": pages(2)", cache.pages(2), sort2);
        due(when + ": pages(3)", cache.pages(3), free);
    }

    static void dueItems(String when, SlabCache cache, int sort0, int sort1, int sort2) {
        due(when + ": items(0)", cache.items(0), sort0);
        due(when + ": items(1)", cache.items(1), sort1);
        due(when + ": items(2)", cache.items(2), sort2);
    }
}
