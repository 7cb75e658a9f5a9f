public final class IntegrityLayer {
    public static final int BAD_SECTOR = -1;
    public static final int FULL = -2;

    private static final int SECTORS = 12;
    private static final int MOST_PENDING = 20;
    private static final int NONE = -1;

    private final int[] durableValue = new int[SECTORS];
    private final boolean[] damaged = new boolean[SECTORS];

    // The pending writes, oldest first, in the first pendingCount places.
    private final int[] pendingSector = new int[MOST_PENDING];
    private final int[] pendingValue = new int[MOST_PENDING];
    private int pendingCount;

    private int durableCount;

    public IntegrityLayer() {
        pendingCount = 0;
        durableCount = 0;
    }

    public int write(int sector, int value) {
        if (!isSector(sector)) {
            return BAD_SECTOR;
        }
        if (pendingCount >= MOST_PENDING) {
            return FULL;
        }
        pendingSector[pendingCount] = sector;
        pendingValue[pendingCount] = value;
        pendingCount++;
        return pendingCount;
    }

    public int flush() {
        int count = pendingCount;
        makeDurable(count);
        return count;
    }

    public int flushSome(int n) {
        int count = limitToPending(n);
        makeDurable(count);
        return count;
    }

    public int crash(int kept) {
        int count = limitToPending(kept);
        makeDurable(count);
        int lost = pendingCount;
        pendingCount = 0;
        return lost;
    }

    public int damage(int sector, int bits) {
        if (!isSector(sector)) {
            return BAD_SECTOR;
        }
        // A spoiled value is never looked at again, so which bits were turned needn't be kept.
        if (bits != 0) {
            damaged[sector] = true;
        }
        return damaged[sector] ? 1 : 0;
    }

    public int scrub() {
        int count = 0;
        for (int sector = 0; sector < SECTORS; sector++) {
            if (damaged[sector]) {
                count++;
            }
        }
        return count;
    }

    public int read(int sector) {
        if (!isSector(sector)) {
            return 0;
        }
        int newest = newestPending(sector);
        if (newest != NONE) {
            return pendingValue[newest];
        }
        return damaged[sector] ? 0 : durableValue[sector];
    }

    public boolean readable(int sector) {
        if (!isSector(sector)) {
            return false;
        }
        return !damaged[sector] || newestPending(sector) != NONE;
    }

    public int pending() {
        return pendingCount;
    }

    public int atRisk() {
        int count = 0;
        for (int sector = 0; sector < SECTORS; sector++) {
            if (isAtRisk(sector)) {
                count++;
            }
        }
        return count;
    }

    public int durable() {
        return durableCount;
    }

    private static boolean isSector(int sector) {
        return sector >= 0 && sector < SECTORS;
    }

    private int limitToPending(int n) {
        if (n < 0) {
            return 0;
        }
        return n > pendingCount ? pendingCount : n;
    }

    private int newestPending(int sector) {
        for (int i = pendingCount - 1; i >= 0; i--) {
            if (pendingSector[i] == sector) {
                return i;
            }
        }
        return NONE;
    }

    private boolean isAtRisk(int sector) {
        int newest = newestPending(sector);
        if (newest == NONE) {
            return false;
        }
        // Under damage the read would fail, which differs even from a pending value of 0.
        return damaged[sector] || pendingValue[newest] != durableValue[sector];
    }

    private void makeDurable(int count) {
        for (int i = 0; i < count; i++) {
            int sector = pendingSector[i];
            durableValue[sector] = pendingValue[i];
            damaged[sector] = false;
        }
        durableCount += count;
        dropOldest(count);
    }

    private void dropOldest(int count) {
        for (int i = count; i < pendingCount; i++) {
            pendingSector[i - count] = pendingSector[i];
            pendingValue[i - count] = pendingValue[i];
        }
        pendingCount -= count;
    }
}
