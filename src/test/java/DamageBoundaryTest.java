/** The boundary cases of Promises 6 and 7, and of Promise 13 for damage, a test for each sentence. */
public final class DamageBoundaryTest {
    private static final int[] SOME_BITS = {1, 2, -1, 255, 256, 65536, Run.LEAST, Run.LEAST + 1, Run.GREATEST - 1, Run.GREATEST};

    public static void main(String[] args) {
        Due.sentence("Promise 6, \"sector not in 0 to 11: BAD_SECTOR\"", DamageBoundaryTest::badSector);
        Due.sentence("Promise 6, BAD_SECTOR damages nothing", DamageBoundaryTest::badSectorChangesNothing);
        Due.sentence("Promise 6, the ends of 0 to 11 are sectors", DamageBoundaryTest::endsAreSectors);
        Due.sentence("Promise 6, \"bits is 0: no damage\"", DamageBoundaryTest::bits0);
        Due.sentence("Promise 6, any bits but 0 are damage", DamageBoundaryTest::anyBits);
        Due.sentence("Promise 6, \"1 if the sector is damaged afterwards, else 0\"", DamageBoundaryTest::answers);
        Due.sentence("Promise 6, \"never looked at again\"", DamageBoundaryTest::neverLookedAt);
        Due.sentence("Promise 6, \"damage to a damaged sector adds nothing\"", DamageBoundaryTest::damagedAgain);
        Due.sentence("Promise 6, a sector where none was ever durable", DamageBoundaryTest::neverDurable);
        Due.sentence("Promise 6, a sector under pending writes", DamageBoundaryTest::underPending);
        Due.sentence("Promise 7, \"how many are damaged\", none to twelve", DamageBoundaryTest::scrubCounts);
        Due.sentence("Promise 7, \"repairs nothing\"", DamageBoundaryTest::scrubRepairsNothing);
        Due.sentence("Promise 7, \"pending writes don't matter\"", DamageBoundaryTest::scrubUnderPending);
        Due.sentence("Promise 13, damage: BAD_SECTOR also if bits is 0", DamageBoundaryTest::badSectorBits0);
        Due.end();
    }

    private static void badSector() {
        for (int sector : Run.noSectors()) {
            Run x = new Run();
            for (int bits : SOME_BITS) {
                x.damage(sector, bits, Run.BAD);
            }
            x.scrub(0);
        }
    }

    private static void start(IntegrityLayer x) {
        for (int s = 0; s < 12; s++) {
            x.write(s, 40 + s);
        }
        x.flush();
        x.damage(5, 1);
        x.write(5, 1);
        x.write(6, 2);
    }

    private static void badSectorChangesNothing() {
        for (int sector : Run.noSectors()) {
            for (int bits : new int[] {0, 1, -1, Run.LEAST, Run.GREATEST}) {
                Twins.areAlike("with and without damage(" + sector + ", " + bits + ")",
                    x -> {
                        start(x);
                        x.damage(sector, bits);
                    },
                    x -> start(x));
            }
        }
    }

    private static void endsAreSectors() {
        new Run().fill(12).flush(12).damage(0, 1, 1).fails(0).gives(1, 101).gives(11, 111)
            .damage(11, 1, 1).fails(11).gives(10, 110).scrub(2);
    }

    private static void bits0() {
        for (int s = 0; s < 12; s++) {
            new Run().damage(s, 0, 0).gives(s, 0).scrub(0)
                .write(s, 9, 1).damage(s, 0, 0).gives(s, 9).flush(1).damage(s, 0, 0).gives(s, 9).scrub(0);
        }
        Twins.areAlike("with and without bits 0 on every sector, damaged ones too",
            x -> {
                start(x);
                for (int s = 0; s < 12; s++) {
                    x.damage(s, 0);
                }
            },
            x -> start(x));
    }

    private static void anyBits() {
        for (int shift = 0; shift < 32; shift++) {
            new Run().write(3, 5, 1).flush(1).damage(3, 1 << shift, 1).fails(3).scrub(1);
        }
        for (int bits : SOME_BITS) {
            new Run().write(3, 5, 1).flush(1).damage(3, bits, 1).fails(3).scrub(1);
            // Bits equal to the durable value, so that 0 would stand there, and bits that would make them all ones.
            new Run().write(3, bits, 1).flush(1).damage(3, bits, 1).fails(3).scrub(1);
            new Run().write(3, ~bits, 1).flush(1).damage(3, bits, 1).fails(3).scrub(1);
        }
    }

    private static void answers() {
        new Run().damage(2, 0, 0).damage(2, 6, 1).damage(2, 0, 1).damage(3, 0, 0)
            .write(2, 1, 1).damage(2, 0, 1).flush(1).damage(2, 0, 0).damage(2, Run.LEAST, 1)
            .write(2, 1, 1).crash(0, 1).damage(2, 0, 1)
            .write(2, 1, 1).crash(1, 0).damage(2, 0, 0);
    }

    private static void neverLookedAt() {
        for (int bits : SOME_BITS) {
            // Whichever bits were turned, the sector is the same: also where the turned value would be 0 or the covering one.
            Twins.areAlike("damage(3, " + bits + ") as damage(3, 4)",
                x -> {
                    start(x);
                    x.damage(3, bits);
                    x.write(3, 43 ^ bits);
                },
                x -> {
                    start(x);
                    x.damage(3, 4);
                    x.write(3, 43 ^ bits);
                });
            new Run().write(3, 43, 1).flush(1).damage(3, bits, 1).write(3, 43 ^ bits, 1).atRisk(1)
                .write(3, 43, 2).atRisk(1).flushSome(1, 1).crash(0, 1).gives(3, 43 ^ bits);
        }
    }

    private static void damagedAgain() {
        for (int bits : SOME_BITS) {
            // The same bits turned twice would be the old value again; the sector stays damaged all the same.
            new Run().write(4, 44, 1).flush(1).damage(4, bits, 1).damage(4, bits, 1).fails(4).scrub(1)
                .damage(4, ~bits, 1).damage(4, 0, 1).fails(4).scrub(1)
                .write(4, 45, 1).flush(1).gives(4, 45).scrub(0).damage(4, 0, 0);
            Twins.areAlike("damage(5, " + bits + ") to the damaged sector 5, or none",
                x -> {
                    start(x);
                    x.damage(5, bits);
                },
                x -> start(x));
        }
    }

    private static void neverDurable() {
        new Run().damage(0, 1, 1).fails(0).damage(11, Run.LEAST, 1).fails(11).scrub(2).durable(0);
        new Run().write(6, 1, 1).crash(0, 1).damage(6, 1, 1).fails(6);
    }

    private static void underPending() {
        new Run().write(6, 1, 1).damage(6, 1, 1).gives(6, 1).scrub(1).damage(6, 0, 1).pending(1).durable(0)
            .flush(1).gives(6, 1).scrub(0).durable(1);
        Run x = new Run().fill(20).damage(7, 1, 1).damage(0, 1, 1).scrub(2).gives(7, 119).gives(0, 112);
        x.flushSome(1, 1).scrub(1).flushSome(6, 6).scrub(1).flushSome(1, 1).scrub(0).damage(7, 1, 1).crash(11, 1).fails(7);
    }

    private static void scrubCounts() {
        Run x = new Run().scrub(0);
        for (int s = 0; s < 12; s++) {
            x.damage(s, 1, 1).scrub(s + 1).damage(s, 2, 1).scrub(s + 1);
        }
        for (int s = 11; s >= 0; s--) {
            x.write(s, 0, 1).flush(1).scrub(s);
        }
        // The first sector alone, and the last.
        new Run().damage(0, 1, 1).scrub(1);
        new Run().damage(11, 1, 1).scrub(1);
    }

    private static void scrubRepairsNothing() {
        Twins.areAlike("with and without scrub(), one damaged and covered",
            x -> {
                start(x);
                x.scrub();
                x.scrub();
            },
            x -> start(x));
        Run x = new Run();
        for (int s = 0; s < 12; s++) {
            x.damage(s, 1, 1);
        }
        x.scrub(12).scrub(12);
        for (int s = 0; s < 12; s++) {
            x.fails(s);
        }
    }

    private static void scrubUnderPending() {
        Run x = new Run();
        for (int s = 0; s < 12; s++) {
            x.damage(s, 1, 1);
        }
        x.fill(20).scrub(12).crash(0, 20).scrub(12);
        // Pending writes to sound sectors count as little as those that cover damage.
        new Run().fill(20).scrub(0).flushSome(5, 5).scrub(0).damage(11, 1, 1).scrub(1).pending(15);
    }

    private static void badSectorBits0() {
        for (int sector : Run.noSectors()) {
            new Run().damage(sector, 0, Run.BAD).scrub(0);
            new Run().damage(0, 1, 1).damage(11, 1, 1).damage(sector, 0, Run.BAD).scrub(2);
        }
    }
}
