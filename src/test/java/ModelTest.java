/**
 * All promises at once: many runs of 512 calls, each answer held against the
 * model. The calls come from a fixed row of numbers, so each run is repeatable.
 */
public final class ModelTest {
    private static final int RUNS = 4000;
    private static final int CALLS_IN_A_RUN = 512;
    private static final int[] EDGES = {
        Integer.MIN_VALUE, -1000, -2, -1, 0, 1, 3, 4, 12, 13, 255, 256, 257, 1000, 1001,
        Integer.MAX_VALUE
    };

    private final SlabCache cache = new SlabCache();
    private final Model model = new Model();
    private final StringBuilder said = new StringBuilder();
    private final int keys;
    private final int storeWeight;
    private final int lengthFrom;
    private final int lengthTo;
    private final int timeTo;
    private long state;

    private ModelTest(int run) {
        state = 0x5DEECE66DL * (run + 1);
        int[] keyChoices = {4, 12, 40, 256};
        int[] timeChoices = {3, 20, 200, 1000};
        keys = keyChoices[below(4)];
        storeWeight = 2 + below(14);
        lengthFrom = 1 + below(12);
        lengthTo = lengthFrom + below(13 - lengthFrom);
        timeTo = timeChoices[below(4)];
    }

    public static void main(String[] args) {
        for (int run = 0; run < RUNS && !Checks.anyWrong(); run++) {
            new ModelTest(run).play(run);
        }
        Checks.finish();
    }

    private void play(int run) {
        for (int call = 0; call < CALLS_IN_A_RUN && !Checks.anyWrong(); call++) {
            callOnBoth(run);
        }
        if (Checks.anyWrong()) {
            System.out.println("the calls of run " + run + ":\n" + said);
        }
    }

    private void callOnBoth(int run) {
        int choice = below(storeWeight + 11);
        int key = mostly(below(keys));
        int time = mostly(below(4) == 0 ? 0 : below(timeTo + 1));
        int value = below(3) == 0 ? EDGES[below(EDGES.length)] : below(1000) - 500;
        int sort = below(6) - 1;
        if (choice >= 11) {
            int length = mostly(anyLength());
            compare(run, "store(" + key + ", " + length + ", " + value + ", " + time + ")",
                cache.store(key, length, value, time), model.store(key, length, value, time));
            return;
        }
        switch (choice) {
            case 0 -> compare(run, "get(" + key + ")", cache.get(key), model.get(key));
            case 1 -> compare(run, "has(" + key + ")", cache.has(key), model.has(key));
            case 2 -> compare(run, "number(" + key + ")", cache.number(key), model.number(key));
            case 3 -> {
                int number = below(4) == 0 ? below(40) - 1 : model.number(key);
                compare(run, "swap(" + key + ", " + number + ", " + value + ")",
                    cache.swap(key, number, value), model.swap(key, number, value));
            }
            case 4 -> compare(run, "add(" + key + ", " + value + ")", cache.add(key, value), model.add(key, value));
            case 5 -> compare(run, "touch(" + key + ", " + time + ")", cache.touch(key, time), model.touch(key, time));
            case 6 -> compare(run, "remove(" + key + ")", cache.remove(key), model.remove(key));
            case 7 -> {
                int step = mostly(below(timeTo / 3 + 1));
                compare(run, "tick(" + step + ")", cache.tick(step), model.tick(step));
            }
            case 8 -> compare(run, "items(" + sort + ")", cache.items(sort), model.items(sort));
            case 9 -> compare(run, "pages(" + sort + ")", cache.pages(sort), model.pages(sort));
            default -> compare(run, "oldest(" + sort + ")", cache.oldest(sort), model.oldest(sort));
        }
    }

    private int anyLength() {
        // Now and then any length, so that items move between sorts that a run otherwise leaves alone.
        return below(8) == 0 ? 1 + below(12) : lengthFrom + below(lengthTo - lengthFrom + 1);
    }

    private int mostly(int usual) {
        return below(24) == 0 ? EDGES[below(EDGES.length)] : usual;
    }

    private void compare(int run, String call, int got, int want) {
        said.append(call).append(" = ").append(got).append('\n');
        Checks.due("run " + run + ": " + call, got, want);
    }

    private int below(int bound) {
        state = state * 6364136223846793005L + 1442695040888963407L;
        return (int) ((state >>> 33) % bound);
    }
}
