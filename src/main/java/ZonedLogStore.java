public final class ZonedLogStore {
    private static final int BLOCKS = 16;
    private static final int MOST_UNSYNCED = 6;
    private static final int LAST_POINT = 3;

    private static final int DOWN = -1;

    private final int[] current = new int[BLOCKS];
    private final int[] durable = new int[BLOCKS];
    private final boolean[] isUnsynced = new boolean[BLOCKS];
    private int unsyncedCount;
    private boolean isUp;
    private boolean groupOpen;

    public ZonedLogStore() {
        unsyncedCount = 0;
        isUp = true;
        groupOpen = false;
    }

    public int up() {
        return isUp ? 1 : 0;
    }

    public int read(int block) {
        if (!isUp || !isGood(block)) {
            return 0;
        }
        return current[block];
    }

    public int write(int block, int value) {
        if (!isUp) {
            return DOWN;
        }
        if (!isGood(block)) {
            return -2;
        }
        if (groupOpen && needsRoom(block)) {
            return -3;
        }
        put(block, value);
        return 0;
    }

    public int fill(int first, int count, int value, int step) {
        if (!isUp) {
            return DOWN;
        }
        // first is compared with a difference, because first + count may wrap.
        if (count < 1 || count > BLOCKS || first < 0 || first > BLOCKS - count) {
            return -2;
        }
        if (groupOpen) {
            return -3;
        }
        for (int i = 0; i < count; i++) {
            put(first + i, value + i * step);
        }
        return 0;
    }

    public int sync() {
        if (!isUp) {
            return DOWN;
        }
        if (groupOpen) {
            return -2;
        }
        return keepCurrent();
    }

    public int begin() {
        if (!isUp) {
            return DOWN;
        }
        if (groupOpen) {
            return -2;
        }
        // An abort goes back to the durable state, so what was written before the group must be in it.
        keepCurrent();
        groupOpen = true;
        return 0;
    }

    public int commit() {
        if (!isUp) {
            return DOWN;
        }
        if (!groupOpen) {
            return -2;
        }
        groupOpen = false;
        return keepCurrent();
    }

    public int abort() {
        if (!isUp) {
            return DOWN;
        }
        if (!groupOpen) {
            return -2;
        }
        groupOpen = false;
        return returnToDurable();
    }

    public int crash() {
        if (!isUp) {
            return DOWN;
        }
        return losePower();
    }

    public int crashIn(int point) {
        if (!isUp) {
            return DOWN;
        }
        if (point < 0 || point > LAST_POINT) {
            return -2;
        }
        // Only at the last point has the sync or commit taken hold before power is lost.
        if (point == LAST_POINT) {
            keepCurrent();
        }
        losePower();
        return 0;
    }

    public int mount() {
        if (isUp) {
            return -1;
        }
        isUp = true;
        return 0;
    }

    public int unsynced() {
        return unsyncedCount;
    }

    public int grouped() {
        return groupOpen ? 1 : 0;
    }

    public int pending() {
        if (!isUp) {
            return DOWN;
        }
        int different = 0;
        for (int i = 0; i < BLOCKS; i++) {
            if (current[i] != durable[i]) {
                different++;
            }
        }
        return different;
    }

    public int sum() {
        if (!isUp) {
            return 0;
        }
        int total = 0;
        for (int i = 0; i < BLOCKS; i++) {
            total += current[i];
        }
        return total;
    }

    // The states are held in place and not in zones, so there is nothing to free.
    public int clean() {
        return isUp ? 0 : DOWN;
    }

    // Any two states of the blocks are consistent with each other, so there is no fault to count.
    public int check() {
        return isUp ? 0 : DOWN;
    }

    private static boolean isGood(int block) {
        return block >= 0 && block < BLOCKS;
    }

    private boolean needsRoom(int block) {
        return unsyncedCount == MOST_UNSYNCED && !isUnsynced[block];
    }

    private void put(int block, int value) {
        if (needsRoom(block)) {
            keepCurrent();
        }
        if (!isUnsynced[block]) {
            isUnsynced[block] = true;
            unsyncedCount++;
        }
        current[block] = value;
    }

    private int keepCurrent() {
        for (int i = 0; i < BLOCKS; i++) {
            durable[i] = current[i];
        }
        return forgetUnsynced();
    }

    private int returnToDurable() {
        for (int i = 0; i < BLOCKS; i++) {
            current[i] = durable[i];
        }
        return forgetUnsynced();
    }

    private int losePower() {
        isUp = false;
        groupOpen = false;
        return returnToDurable();
    }

    private int forgetUnsynced() {
        int before = unsyncedCount;
        for (int i = 0; i < BLOCKS; i++) {
            isUnsynced[i] = false;
        }
        unsyncedCount = 0;
        return before;
    }
}
