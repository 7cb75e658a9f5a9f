/** A run of calls on a new object, each call given with the answer that is due as its last argument. */
final class Run {
    static final int BAD = IntegrityLayer.BAD_SECTOR;
    static final int FULL = IntegrityLayer.FULL;
    static final int LEAST = Integer.MIN_VALUE;
    static final int GREATEST = Integer.MAX_VALUE;

    private static final int MOST_CALLS = 512;

    private final IntegrityLayer device = new IntegrityLayer();
    private int calls = 0;

    /** Ints that are no sectors: next to the ends, far away, and such that their low bits name a sector. */
    static int[] noSectors() {
        return new int[] {-1, 12, -2, 13, -11, -12, 16, 255, 256, 65536, -65536, LEAST, LEAST + 1, GREATEST - 1, GREATEST};
    }

    Run write(int sector, int value, int due) {
        return look("write(" + sector + ", " + value + ")", device.write(sector, value), due);
    }

    Run flush(int due) {
        return look("flush()", device.flush(), due);
    }

    Run flushSome(int n, int due) {
        return look("flushSome(" + n + ")", device.flushSome(n), due);
    }

    Run crash(int kept, int due) {
        return look("crash(" + kept + ")", device.crash(kept), due);
    }

    Run damage(int sector, int bits, int due) {
        return look("damage(" + sector + ", " + bits + ")", device.damage(sector, bits), due);
    }

    Run scrub(int due) {
        return look("scrub()", device.scrub(), due);
    }

    Run read(int sector, int due) {
        return look("read(" + sector + ")", device.read(sector), due);
    }

    Run readable(int sector, boolean due) {
        return look("readable(" + sector + "), as 1 or 0,", device.readable(sector) ? 1 : 0, due ? 1 : 0);
    }

    Run pending(int due) {
        return look("pending()", device.pending(), due);
    }

    Run atRisk(int due) {
        return look("atRisk()", device.atRisk(), due);
    }

    Run durable(int due) {
        return look("durable()", device.durable(), due);
    }

    /** A read of the sector succeeds and gives the value. */
    Run gives(int sector, int value) {
        return read(sector, value).readable(sector, true);
    }

    /** A read of the sector fails. */
    Run fails(int sector) {
        return read(sector, 0).readable(sector, false);
    }

    /** Makes 'count' writes on a device with nothing pending: the i-th, from 0, is 100 + i to sector i modulo 12. */
    Run fill(int count) {
        for (int i = 0; i < count; i++) {
            write(i % 12, 100 + i, i + 1);
        }
        return this;
    }

    /** Every sector reads as if the first 'count' writes of the sequence in fill, and no others, were ever made. */
    Run holdsFirst(int count) {
        for (int s = 0; s < 12; s++) {
            int newest = count - 1 - Math.floorMod(count - 1 - s, 12);
            gives(s, newest < 0 ? 0 : 100 + newest);
        }
        return this;
    }

    private Run look(String call, int got, int due) {
        calls++;
        if (calls > MOST_CALLS) {
            Due.holds("the test keeps to " + MOST_CALLS + " calls on one object", false);
        }
        Due.is("call " + calls + " of the run, " + call, got, due);
        return this;
    }
}
