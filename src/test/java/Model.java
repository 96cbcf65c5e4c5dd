import java.util.ArrayList;
import java.util.List;

/**
 * The document told a second time, with other means than the class: pages with
 * cells that hold items, and for each sort a list in the order of last use.
 */
final class Model {
    private static final int[] CELLS = {4, 2, 1};

    private static final class Item {
        int key;
        int sort;
        int value;
        int number;
        long end;
    }

    private static final class Page {
        int sort = -1;
        Item[] cells = new Item[0];
    }

    private final Page[] pages = new Page[8];
    private final List<List<Item>> usedFirstToLast = new ArrayList<>();
    private long clock = 0;
    private int nextNumber = 1;

    Model() {
        for (int i = 0; i < pages.length; i++) {
            pages[i] = new Page();
        }
        for (int sort = 0; sort < 3; sort++) {
            usedFirstToLast.add(new ArrayList<>());
        }
    }

    int store(int key, int length, int value, int time) {
        if (key < 0 || key > 255 || length < 1 || length > 12 || wrongTime(time)) {
            return -1;
        }
        int sort = length < 4 ? 0 : length < 7 ? 1 : 2;
        Item old = find(key);
        Item item = new Item();
        item.key = key;
        item.sort = sort;
        if (old != null && old.sort == sort) {
            replaceInCells(old, item);
            usedFirstToLast.get(sort).remove(old);
        } else {
            if (!room(sort)) {
                return -2;
            }
            if (old != null) {
                lose(old);
            }
            replaceInCells(null, item);
        }
        usedFirstToLast.get(sort).add(item);
        item.value = value;
        item.number = nextNumber++;
        item.end = endAfter(time);
        return item.number;
    }

    int get(int key) {
        Item item = find(key);
        if (item == null) {
            return 0;
        }
        use(item);
        return item.value;
    }

    int has(int key) {
        return find(key) == null ? 0 : 1;
    }

    int number(int key) {
        Item item = find(key);
        return item == null ? -1 : item.number;
    }

    int swap(int key, int number, int value) {
        Item item = find(key);
        if (item == null) {
            return -1;
        }
        if (item.number != number) {
            return 0;
        }
        item.value = value;
        item.number = nextNumber++;
        use(item);
        return 1;
    }

    int add(int key, int amount) {
        Item item = find(key);
        if (item == null) {
            return 0;
        }
        item.value = (int) ((long) item.value + amount);
        item.number = nextNumber++;
        use(item);
        return item.value;
    }

    int touch(int key, int time) {
        if (wrongTime(time)) {
            return -1;
        }
        Item item = find(key);
        if (item == null) {
            return 0;
        }
        item.end = endAfter(time);
        use(item);
        return 1;
    }

    int remove(int key) {
        Item item = find(key);
        if (item == null) {
            return 0;
        }
        lose(item);
        return 1;
    }

    int tick(int time) {
        if (wrongTime(time)) {
            return -1;
        }
        clock += time;
        List<Item> ended = new ArrayList<>();
        for (List<Item> list : usedFirstToLast) {
            for (Item item : list) {
                if (item.end <= clock) {
                    ended.add(item);
                }
            }
        }
        ended.forEach(this::lose);
        return ended.size();
    }

    int items(int sort) {
        return sort < 0 || sort > 2 ? -1 : usedFirstToLast.get(sort).size();
    }

    int pages(int sort) {
        if (sort < 0 || sort > 3) {
            return -1;
        }
        int count = 0;
        for (Page page : pages) {
            if (page.sort == (sort == 3 ? -1 : sort)) {
                count++;
            }
        }
        return count;
    }

    int oldest(int sort) {
        if (sort < 0 || sort > 2 || usedFirstToLast.get(sort).isEmpty()) {
            return -1;
        }
        return usedFirstToLast.get(sort).get(0).key;
    }

    private static boolean wrongTime(int time) {
        return time < 0 || time > 1000;
    }

    private long endAfter(int time) {
        return time == 0 ? Long.MAX_VALUE : clock + time;
    }

    private Item find(int key) {
        for (List<Item> list : usedFirstToLast) {
            for (Item item : list) {
                if (item.key == key) {
                    return item;
                }
            }
        }
        return null;
    }

    private void use(Item item) {
        usedFirstToLast.get(item.sort).remove(item);
        usedFirstToLast.get(item.sort).add(item);
    }

    private void lose(Item item) {
        usedFirstToLast.get(item.sort).remove(item);
        for (Page page : pages) {
            for (int i = 0; i < page.cells.length; i++) {
                if (page.cells[i] == item) {
                    page.cells[i] = null;
                }
            }
        }
    }

    private boolean room(int sort) {
        for (Page page : pages) {
            for (Item cell : page.cells) {
                if (page.sort == sort && cell == null) {
                    return true;
                }
            }
        }
        for (Page page : pages) {
            if (page.sort == -1) {
                page.sort = sort;
                page.cells = new Item[CELLS[sort]];
                return true;
            }
        }
        if (usedFirstToLast.get(sort).isEmpty()) {
            return false;
        }
        lose(usedFirstToLast.get(sort).get(0));
        return true;
    }

    /** Puts the item in the first cell of its sort that holds what is given: another item, or null for none. */
    private void replaceInCells(Item held, Item item) {
        for (Page page : pages) {
            for (int i = 0; i < page.cells.length; i++) {
                if (page.sort == item.sort && page.cells[i] == held) {
                    page.cells[i] = item;
                    return;
                }
            }
        }
        throw new IllegalStateException("the model has no cell for key " + item.key);
    }
}
