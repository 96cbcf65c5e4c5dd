/**
 * A cache in a few pages of cells, each page for one sort of items, that gives
 * up what has not been used for longest.
 */
public final class SlabCache {
    private static final int KEYS = 256;
    private static final int SORTS = 3;
    private static final int PAGES = 8;
    private static final int GREATEST_LENGTH = 12;
    private static final int GREATEST_TIME = 1000;

    // An end is always greater than the clock was when it was set, so 0 is never one.
    private static final int NO_END = 0;
    private static final int NO_KEY = -1;

    // No two items share a key, so the key itself is the place where an item's
    // state stands. Its length shows only through its sort, and the cells of one
    // sort are all alike, so neither is kept: cells are counted.
    private final boolean[] held = new boolean[KEYS];
    private final int[] sortOf = new int[KEYS];
    private final int[] valueOf = new int[KEYS];
    private final int[] numberOf = new int[KEYS];
    private final int[] endOf = new int[KEYS];
    private final int[] lastUseOf = new int[KEYS];

    private final int[] itemCount = new int[SORTS];
    private final int[] pageCount = new int[SORTS];

    private int freePages;
    private int clock;
    private int lastNumber;
    private int lastUse;

    public SlabCache() {
        freePages = PAGES;
        clock = 0;
        lastNumber = 0;
        lastUse = 0;
    }

    public int store(int key, int length, int value, int time) {
        if (!isKey(key) || !isLength(length) || !isTime(time)) {
            return -1;
        }
        int sort = sortForLength(length);
        boolean takesOldCell = held[key] && sortOf[key] == sort;
        if (!takesOldCell) {
            if (!makeRoom(sort)) {
                return -2;
            }
            // Only now, because a store that finds no room keeps the old item.
            if (held[key]) {
                drop(key);
            }
            takeCell(key, sort);
        }
        setValue(key, value);
        setEnd(key, time);
        use(key);
        return numberOf[key];
    }

    public int get(int key) {
        if (!holds(key)) {
            return 0;
        }
        use(key);
        return valueOf[key];
    }

    public int has(int key) {
        return holds(key) ? 1 : 0;
    }

    public int number(int key) {
        return holds(key) ? numberOf[key] : -1;
    }

    public int swap(int key, int number, int value) {
        if (!holds(key)) {
            return -1;
        }
        if (numberOf[key] != number) {
            return 0;
        }
        setValue(key, value);
        use(key);
        return 1;
    }

    public int add(int key, int amount) {
        if (!holds(key)) {
            return 0;
        }
        setValue(key, valueOf[key] + amount);
        use(key);
        return valueOf[key];
    }

    public int touch(int key, int time) {
        if (!isTime(time)) {
            return -1;
        }
        if (!holds(key)) {
            return 0;
        }
        setEnd(key, time);
        use(key);
        return 1;
    }

    public int remove(int key) {
        if (!holds(key)) {
            return 0;
        }
        drop(key);
        return 1;
    }

    public int tick(int time) {
        if (!isTime(time)) {
            return -1;
        }
        clock = clock + time;
        int gone = 0;
        for (int key = 0; key < KEYS; key++) {
            if (held[key] && hasEnded(key)) {
                drop(key);
                gone++;
            }
        }
        return gone;
    }

    public int items(int sort) {
        return isSort(sort) ? itemCount[sort] : -1;
    }

    public int pages(int sort) {
        if (sort == SORTS) {
            return freePages;
        }
        return isSort(sort) ? pageCount[sort] : -1;
    }

    public int oldest(int sort) {
        return isSort(sort) ? longestUnused(sort) : -1;
    }

    private static boolean isKey(int key) {
        return key >= 0 && key < KEYS;
    }

    private static boolean isLength(int length) {
        return length >= 1 && length <= GREATEST_LENGTH;
    }

    private static boolean isTime(int time) {
        return time >= 0 && time <= GREATEST_TIME;
    }

    private static boolean isSort(int sort) {
        return sort >= 0 && sort < SORTS;
    }

    private static int sortForLength(int length) {
        if (length <= 3) {
            return 0;
        }
        return length <= 6 ? 1 : 2;
    }

    private static int cellsInPage(int sort) {
        if (sort == 0) {
            return 4;
        }
        return sort == 1 ? 2 : 1;
    }

    private boolean holds(int key) {
        return isKey(key) && held[key];
    }

    private boolean hasEnded(int key) {
        return endOf[key] != NO_END && endOf[key] <= clock;
    }

    private boolean makeRoom(int sort) {
        int cells = pageCount[sort] * cellsInPage(sort);
        if (itemCount[sort] < cells) {
            return true;
        }
        if (freePages > 0) {
            freePages--;
            pageCount[sort]++;
            return true;
        }
        int key = longestUnused(sort);
        if (key == NO_KEY) {
            return false;
        }
        drop(key);
        return true;
    }

    private int longestUnused(int sort) {
        int found = NO_KEY;
        for (int key = 0; key < KEYS; key++) {
            if (held[key] && sortOf[key] == sort) {
                if (found == NO_KEY || lastUseOf[key] < lastUseOf[found]) {
                    found = key;
                }
            }
        }
        return found;
    }

    private void takeCell(int key, int sort) {
        held[key] = true;
        sortOf[key] = sort;
        itemCount[sort]++;
    }

    private void drop(int key) {
        held[key] = false;
        itemCount[sortOf[key]]--;
    }

    private void setValue(int key, int value) {
        lastNumber++;
        numberOf[key] = lastNumber;
        valueOf[key] = value;
    }

    private void setEnd(int key, int time) {
        endOf[key] = time == 0 ? NO_END : clock + time;
    }

    private void use(int key) {
        lastUse++;
        lastUseOf[key] = lastUse;
    }
}
