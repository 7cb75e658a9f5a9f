import java.util.function.Consumer;

/** The boundary cases of Promises 8, 9 and 11, and of the calls that change nothing, a test for each sentence. */
public final class ReadBoundaryTest {
    private static final int LEAST = Run.LEAST;
    private static final int GREATEST = Run.GREATEST;

    public static void main(String[] args) {
        Due.sentence("Promise 8, \"0 if it fails\"", ReadBoundaryTest::readFails);
        Due.sentence("Promise 8, 0 if \"sector is not in 0 to 11\"", ReadBoundaryTest::readOfNoSector);
        Due.sentence("Promise 8, the ends of 0 to 11 are sectors", ReadBoundaryTest::readOfEnds);
        Due.sentence("Promise 9, \"Whether a read of the sector succeeds\", fails", ReadBoundaryTest::notReadable);
        Due.sentence("Promise 9, \"Whether a read of the sector succeeds\", gives 0", ReadBoundaryTest::readableThoughZero);
        Due.sentence("Promise 9, \"false if sector is not in 0 to 11\"", ReadBoundaryTest::readableOfNoSector);
        Due.sentence("Promise 11, none at risk", ReadBoundaryTest::noneAtRisk);
        Due.sentence("Promise 11, \"would read another value\"", ReadBoundaryTest::anotherValue);
        Due.sentence("Promise 11, the newest pending write alone matters", ReadBoundaryTest::newestAlone);
        Due.sentence("Promise 11, \"How many sectors\", up to twelve", ReadBoundaryTest::upToTwelve);
        Due.sentence("Promise 11, \"or fail ... differently\"", ReadBoundaryTest::failsAfter);
        Due.sentence("Promise 11, fails now and after: not differently", ReadBoundaryTest::failsBoth);
        Due.sentence("Promise 11, \"or ... succeed, differently\"", ReadBoundaryTest::succeedsBoth);
        Due.sentence("Promise 11, as a crash that keeps nothing shows", ReadBoundaryTest::asACrashShows);
        Due.sentence("\"The calls below change nothing\", read", ReadBoundaryTest::readChangesNothing);
        Due.sentence("\"The calls below change nothing\", readable", ReadBoundaryTest::readableChangesNothing);
        Due.sentence("\"The calls below change nothing\", pending", () -> changesNothing("pending()", x -> x.pending()));
        Due.sentence("\"The calls below change nothing\", atRisk", () -> changesNothing("atRisk()", x -> x.atRisk()));
        Due.sentence("\"The calls below change nothing\", durable", () -> changesNothing("durable()", x -> x.durable()));
        Due.end();
    }

    private static void readFails() {
        for (int value : new int[] {1, -1, -2, LEAST, GREATEST}) {
            for (int bits : new int[] {1, -1, value, ~value | 1, LEAST}) {
                new Run().write(3, value, 1).flush(1).damage(3, bits, 1).read(3, 0)
                    .write(3, value, 1).read(3, value).crash(0, 1).read(3, 0);
            }
        }
        Run x = new Run().fill(12).flush(12);
        for (int s = 0; s < 12; s++) {
            x.damage(s, 1, 1).read(s, 0);
        }
    }

    private static void readOfNoSector() {
        for (int sector : Run.noSectors()) {
            new Run().read(sector, 0);
            new Run().fill(20).read(sector, 0).flush(20).read(sector, 0);
            new Run().write(sector, 5, Run.BAD).read(sector, 0);
        }
    }

    private static void readOfEnds() {
        new Run().write(0, LEAST, 1).write(11, GREATEST, 2).read(0, LEAST).read(11, GREATEST)
            .flush(2).read(0, LEAST).read(11, GREATEST).read(-1, 0).read(12, 0);
    }

    private static void notReadable() {
        Run x = new Run();
        for (int s = 0; s < 12; s++) {
            x.readable(s, true).damage(s, LEAST, 1).readable(s, false);
        }
        x.write(0, 0, 1).readable(0, true).readable(1, false).write(11, 0, 2).readable(11, true).readable(10, false);
        x.crash(1, 1).readable(0, true).readable(11, false);
    }

    private static void readableThoughZero() {
        // 0 is a value as well as the answer of a read that fails.
        new Run().readable(0, true).write(0, 0, 1).readable(0, true).flush(1).readable(0, true)
            .damage(0, 1, 1).readable(0, false).write(0, 0, 1).readable(0, true).flush(1).readable(0, true).read(0, 0);
    }

    private static void readableOfNoSector() {
        for (int sector : Run.noSectors()) {
            new Run().readable(sector, false);
            new Run().fill(20).readable(sector, false).flush(20).readable(sector, false);
            new Run().write(sector, 5, Run.BAD).readable(sector, false);
        }
    }

    private static void noneAtRisk() {
        new Run().atRisk(0);
        new Run().fill(20).flush(20).atRisk(0);
        new Run().fill(20).crash(0, 20).atRisk(0);
        new Run().fill(20).crash(5, 15).atRisk(0);
        new Run().fill(12).flush(12).fill(12).atRisk(0);
        // Pending writes of the durable value: 0 where none was ever durable, the smallest and the greatest int.
        new Run().write(0, 0, 1).atRisk(0).write(11, 0, 2).atRisk(0);
        new Run().write(1, LEAST, 1).write(2, GREATEST, 2).flush(2).write(1, LEAST, 1).write(2, GREATEST, 2).atRisk(0);
        new Run().write(-1, 1, Run.BAD).write(12, 1, Run.BAD).atRisk(0);
    }

    private static void anotherValue() {
        int[] values = {LEAST, LEAST + 1, -65536, -1, 0, 1, 256, 65536, GREATEST};
        for (int durable : values) {
            for (int pending : values) {
                new Run().write(5, durable, 1).flush(1).write(5, pending, 1).atRisk(durable == pending ? 0 : 1);
            }
        }
        new Run().write(0, 1, 1).atRisk(1).crash(0, 1).write(11, 1, 1).atRisk(1);
    }

    private static void newestAlone() {
        new Run().write(4, 1, 1).write(4, 0, 2).atRisk(0).write(4, 2, 3).atRisk(1).write(4, 0, 4).atRisk(0);
        // While the older ones become durable, the same newest one can come to differ, and to differ no more.
        new Run().write(4, 1, 1).write(4, 0, 2).flushSome(1, 1).atRisk(1).flushSome(1, 1).atRisk(0);
        new Run().write(4, 2, 1).write(4, 2, 2).atRisk(1).flushSome(1, 1).atRisk(0);
        new Run().fill(19).write(6, 0, 20).atRisk(11);
    }

    private static void upToTwelve() {
        Run x = new Run();
        for (int i = 1; i <= 12; i++) {
            x.write(12 - i, i, i).atRisk(i);
        }
        // A sector counts once, however many writes to it are pending.
        for (int i = 13; i <= 20; i++) {
            x.write(i % 3, i, i).atRisk(12);
        }
        x.write(0, 0, Run.FULL).atRisk(12).crash(0, 20).atRisk(0);
    }

    private static void failsAfter() {
        // The read gives 0 now, and after the crash 0 as well, but as one that fails.
        new Run().damage(2, 1, 1).write(2, 0, 1).atRisk(1);
        new Run().write(2, 0, 1).damage(2, 1, 1).atRisk(1);
        // The pending value is the durable one, which is spoiled.
        new Run().write(2, 7, 1).flush(1).write(2, 7, 1).atRisk(0).damage(2, 1, 1).atRisk(1).damage(2, 1, 1).atRisk(1);
        // Any other value fails then too, and the sector counts once.
        new Run().damage(2, 1, 1).write(2, 5, 1).write(2, 6, 2).atRisk(1);
        Run x = new Run();
        for (int s = 0; s < 12; s++) {
            x.write(s, 0, s + 1).damage(s, LEAST, 1).atRisk(s + 1);
        }
        // As the first twelve of these writes become durable, each ends its sector's damage, and nothing is missed.
        for (int s = 0; s < 12; s++) {
            x.flushSome(1, 1).atRisk(11 - s);
        }
    }

    private static void failsBoth() {
        new Run().damage(2, 1, 1).atRisk(0);
        new Run().write(2, 7, 1).flush(1).damage(2, 1, 1).atRisk(0);
        new Run().write(2, 7, 1).damage(2, 1, 1).crash(0, 1).atRisk(0);
        Run x = new Run().fill(12).flush(12);
        for (int s = 0; s < 12; s++) {
            x.damage(s, -1, 1).atRisk(0);
        }
        // A pending write elsewhere puts at risk no sector but its own.
        x.write(11, 1, 1).atRisk(1);
    }

    private static void succeedsBoth() {
        // The damage has ended, so the read succeeds now and then; a newer write of the same value loses nothing.
        new Run().damage(2, 1, 1).write(2, 0, 1).write(2, 0, 2).atRisk(1).flushSome(1, 1).atRisk(0);
        new Run().damage(2, 1, 1).write(2, 5, 1).write(2, 6, 2).flushSome(1, 1).atRisk(1).write(2, 5, 2).atRisk(0);
        new Run().damage(2, 1, 1).write(2, 5, 1).flush(1).atRisk(0).write(2, 5, 1).atRisk(0);
    }

    /** Every pair of a sector's durable and pending value, damaged or not: atRisk agrees with the reads around a crash. */
    private static void asACrashShows() {
        int[] values = {LEAST, -1, 0, 1, GREATEST};
        for (int durable : values) {
            for (int pending : values) {
                for (int bits : new int[] {0, 1, durable ^ pending}) {
                    IntegrityLayer x = new IntegrityLayer();
                    x.write(11, durable);
                    x.flush();
                    x.write(11, pending);
                    x.damage(11, bits);
                    int atRisk = x.atRisk();
                    int before = x.read(11);
                    boolean readableBefore = x.readable(11);
                    x.crash(0);
                    boolean differs = before != x.read(11) || readableBefore != x.readable(11);
                    Due.is("durable " + durable + ", pending " + pending + ", bits " + bits + ": atRisk()",
                        atRisk, differs ? 1 : 0);
                }
            }
        }
    }

    private static void start(IntegrityLayer x, int count) {
        for (int s = 0; s < 12; s++) {
            x.write(s, 40 + s);
        }
        x.flush();
        x.damage(0, 1);
        x.damage(4, 1);
        x.damage(11, 1);
        for (int i = 0; i < count; i++) {
            x.write(i % 11, 300 + i);
        }
    }

    private static void changesNothing(String what, Consumer<IntegrityLayer> call) {
        for (int count : new int[] {0, 1, 5, 20}) {
            Twins.areAlike(count + " pending, with and without " + what,
                x -> {
                    start(x, count);
                    call.accept(x);
                    call.accept(x);
                },
                x -> start(x, count));
        }
    }

    private static void readChangesNothing() {
        for (int s = 0; s < 12; s++) {
            int sector = s;
            changesNothing("read(" + s + ")", x -> x.read(sector));
        }
        for (int sector : Run.noSectors()) {
            changesNothing("read(" + sector + ")", x -> x.read(sector));
        }
    }

    private static void readableChangesNothing() {
        for (int s = 0; s < 12; s++) {
            int sector = s;
            changesNothing("readable(" + s + ")", x -> x.readable(sector));
        }
        for (int sector : Run.noSectors()) {
            changesNothing("readable(" + sector + ")", x -> x.readable(sector));
        }
    }
}
