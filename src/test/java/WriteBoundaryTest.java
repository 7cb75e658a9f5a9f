/** The boundary cases of Promises 2 and 10, and of Promise 13 for write, a test for each sentence. */
public final class WriteBoundaryTest {
    public static void main(String[] args) {
        Due.sentence("Promise 2, \"sector not in 0 to 11: BAD_SECTOR\"", WriteBoundaryTest::badSector);
        Due.sentence("Promise 2, the ends of 0 to 11 are sectors", WriteBoundaryTest::endsAreSectors);
        Due.sentence("Promise 2, \"twenty writes are pending: FULL\"", WriteBoundaryTest::full);
        Due.sentence("Promise 2, not FULL below twenty", WriteBoundaryTest::notFullBelowTwenty);
        Due.sentence("Promise 2, \"nothing changes then\", after BAD_SECTOR", WriteBoundaryTest::badSectorChangesNothing);
        Due.sentence("Promise 2, \"nothing changes then\", after FULL", WriteBoundaryTest::fullChangesNothing);
        Due.sentence("Promise 2, \"Else answers how many are pending\"", WriteBoundaryTest::answersPending);
        Due.sentence("Promise 10, from none to twenty and back", WriteBoundaryTest::pendingCounts);
        Due.sentence("Promise 10, after a refused call", WriteBoundaryTest::pendingAfterRefusal);
        Due.sentence("Promise 13, write: BAD_SECTOR is tested before FULL", WriteBoundaryTest::badSectorBeforeFull);
        Due.end();
    }

    private static void badSector() {
        for (int sector : Run.noSectors()) {
            new Run().write(sector, 1, Run.BAD);
            new Run().write(sector, 0, Run.BAD);
            new Run().fill(19).write(sector, Run.LEAST, Run.BAD).write(sector, Run.GREATEST, Run.BAD);
        }
        Due.is("BAD_SECTOR", IntegrityLayer.BAD_SECTOR, -1);
    }

    private static void endsAreSectors() {
        new Run().write(0, 8, 1).gives(0, 8).write(11, 9, 2).gives(11, 9).flush(2).gives(0, 8).gives(11, 9);
    }

    private static void full() {
        Run x = new Run().fill(20);
        for (int s = 0; s < 12; s++) {
            x.write(s, s, Run.FULL);
        }
        x.write(0, Run.LEAST, Run.FULL).write(11, Run.GREATEST, Run.FULL);
        // A write that would change no read is refused too.
        x.write(7, 119, Run.FULL);
        Due.is("FULL", IntegrityLayer.FULL, -2);
    }

    private static void notFullBelowTwenty() {
        new Run().fill(19).write(0, 1, 20);
        new Run().fill(20).flushSome(1, 1).write(0, 1, 20).write(0, 1, Run.FULL);
        new Run().fill(20).flushSome(20, 20).fill(20).write(0, 1, Run.FULL);
        new Run().fill(20).flush(20).fill(20).write(0, 1, Run.FULL);
        new Run().fill(20).crash(0, 20).fill(20).write(0, 1, Run.FULL);
        new Run().fill(20).crash(7, 13).fill(20).write(0, 1, Run.FULL);
        new Run().fill(20).flushSome(0, 0).write(0, 1, Run.FULL).flushSome(Run.LEAST, 0).write(0, 1, Run.FULL);
    }

    private static void start(IntegrityLayer x, int count) {
        x.write(11, 55);
        x.flush();
        x.damage(0, 1);
        x.damage(11, 1);
        for (int i = 0; i < count; i++) {
            x.write(i % 10, 300 + i);
        }
    }

    private static void badSectorChangesNothing() {
        for (int count : new int[] {0, 1, 19, 20}) {
            for (int sector : Run.noSectors()) {
                Twins.areAlike(count + " pending, with and without write(" + sector + ", 77)",
                    x -> {
                        start(x, count);
                        x.write(sector, 77);
                    },
                    x -> start(x, count));
            }
        }
    }

    private static void fullChangesNothing() {
        for (int sector = 0; sector < 12; sector++) {
            int refused = sector;
            Twins.areAlike("twenty pending, with and without write(" + sector + ", 77)",
                x -> {
                    start(x, 20);
                    x.write(refused, 77);
                    x.write(refused, 78);
                },
                x -> start(x, 20));
            // Nor does the refused write turn up when there is room again.
            Twins.areAlike("a write after a refused one to " + sector,
                x -> {
                    start(x, 20);
                    x.write(refused, 77);
                    x.flushSome(1);
                    x.write(10, 79);
                },
                x -> {
                    start(x, 20);
                    x.flushSome(1);
                    x.write(10, 79);
                });
        }
    }

    private static void answersPending() {
        Run x = new Run();
        for (int i = 1; i <= 20; i++) {
            x.write(11, -1, i).pending(i);
        }
        x.flushSome(19, 19).write(0, 0, 2).crash(1, 1).write(0, 0, 1);
        // Neither the damage of the sector nor what was durable before changes the answer.
        new Run().damage(4, 1, 1).write(4, 1, 1).flush(1).write(4, 1, 1).write(4, 1, 2);
    }

    private static void pendingCounts() {
        Run x = new Run().pending(0);
        for (int i = 1; i <= 20; i++) {
            x.write(i % 12, 0, i).pending(i);
        }
        for (int i = 19; i >= 0; i--) {
            x.flushSome(1, 1).pending(i);
        }
        x.flushSome(1, 0).pending(0).flush(0).pending(0).crash(1, 0).pending(0);
        x.fill(20).flush(20).pending(0);
        x.fill(20).crash(20, 0).pending(0);
        x.fill(20).crash(3, 17).pending(0);
        x.fill(20).crash(0, 20).pending(0);
    }

    private static void pendingAfterRefusal() {
        new Run().write(-1, 1, Run.BAD).pending(0).write(12, 1, Run.BAD).pending(0);
        new Run().fill(20).write(0, 1, Run.FULL).pending(20).write(12, 1, Run.BAD).pending(20);
        new Run().fill(5).damage(12, 1, Run.BAD).damage(5, 1, 1).pending(5).scrub(1).pending(5);
        new Run().fill(5).flushSome(-1, 0).pending(5).flushSome(0, 0).pending(5);
    }

    private static void badSectorBeforeFull() {
        for (int sector : Run.noSectors()) {
            new Run().fill(20).write(sector, 1, Run.BAD).write(0, 1, Run.FULL).write(sector, 0, Run.BAD);
        }
    }
}
