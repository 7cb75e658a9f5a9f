/** The boundary cases in "What it is", "Terms" and Promise 1, a test for each sentence. */
public final class TermsBoundaryTest {
    private static final int LEAST = Run.LEAST;
    private static final int GREATEST = Run.GREATEST;

    public static void main(String[] args) {
        Due.sentence("What it is, \"at most 512 calls\"", TermsBoundaryTest::everyKindAsCall512);
        Due.sentence("What it is, \"at most 512 calls\", most durable writes", TermsBoundaryTest::mostDurableWrites);
        Due.sentence("What it is, \"at most 512 calls\", all but a few refused", TermsBoundaryTest::mostRefusals);
        Due.sentence("What it is, \"what later calls answer is free\", but none throws", TermsBoundaryTest::laterCalls);

        Due.sentence("Terms, \"twelve SECTORS (0 to 11)\"", TermsBoundaryTest::twelveSectors);
        Due.sentence("Terms, \"an int each\"", TermsBoundaryTest::anIntEach);
        Due.sentence("Terms, \"at first only PENDING\"", TermsBoundaryTest::atFirstOnlyPending);
        Due.sentence("Terms, \"in the order in which they were made\"", TermsBoundaryTest::inOrder);
        Due.sentence("Terms, \"At most twenty writes are pending\"", TermsBoundaryTest::atMostTwenty);
        Due.sentence("Terms, \"the newest pending write\"", TermsBoundaryTest::newestPending);
        Due.sentence("Terms, \"else its durable value\"", TermsBoundaryTest::elseDurable);
        Due.sentence("Terms, \"0 if none was ever durable\"", TermsBoundaryTest::noneEverDurable);
        Due.sentence("Terms, \"fails as long as no pending write covers it\"", TermsBoundaryTest::covered);
        Due.sentence("Terms, \"the first 'kept' of them ... as if they had been flushed\"", TermsBoundaryTest::keptAsIfFlushed);
        Due.sentence("Terms, \"the others never made\"", TermsBoundaryTest::othersNeverMade);
        Due.sentence("Terms, \"how often it moves things, can't be seen\"", TermsBoundaryTest::wrapAround);
        Due.sentence("Terms, \"it spoils the durable value\"", TermsBoundaryTest::spoilsDurableOnly);
        Due.sentence("Terms, \"stays damaged\"", TermsBoundaryTest::staysDamaged);
        Due.sentence("Terms, \"until a later write to it becomes durable\"", TermsBoundaryTest::damageEnds);

        Due.sentence("Promise 1, \"All sectors 0\"", TermsBoundaryTest::newSectors);
        Due.sentence("Promise 1, \"none damaged\"", TermsBoundaryTest::newUndamaged);
        Due.sentence("Promise 1, \"nothing pending\"", TermsBoundaryTest::newNothingPending);
        Due.sentence("Promise 1, a new object beside a used one", TermsBoundaryTest::newBesideUsed);
        Due.end();
    }

    /** 511 calls: 480 durable writes, sector 11 damaged, then 0 to 5 written with -1 to -6. */
    private static Run after511Calls() {
        Run x = new Run();
        for (int round = 0; round < 24; round++) {
            x.fill(20).flush(20);
        }
        x.damage(11, 1, 1);
        for (int s = 0; s < 6; s++) {
            x.write(s, -1 - s, s + 1);
        }
        return x;
    }

    private static void everyKindAsCall512() {
        after511Calls().write(11, 1, 7);
        after511Calls().write(12, 1, Run.BAD);
        after511Calls().flush(6);
        after511Calls().flushSome(GREATEST, 6);
        after511Calls().crash(LEAST, 6);
        after511Calls().damage(2, 0, 0);
        after511Calls().damage(11, 0, 1);
        after511Calls().scrub(1);
        after511Calls().read(5, -6);
        after511Calls().read(6, 118);
        after511Calls().readable(11, false);
        after511Calls().pending(6);
        after511Calls().atRisk(6);
        after511Calls().durable(480);
    }

    private static void mostDurableWrites() {
        after511CallsAllFlushed().durable(486);
        after511CallsAllFlushed().read(5, 105);
        after511CallsAllFlushed().read(11, 111);
    }

    private static Run after511CallsAllFlushed() {
        Run x = new Run();
        for (int round = 0; round < 24; round++) {
            x.fill(20).flush(20);
        }
        return x.fill(6).flush(6);
    }

    private static void mostRefusals() {
        Run x = new Run().fill(20);
        for (int i = 0; i < 120; i++) {
            x.write(i % 12, i, Run.FULL).write(12, i, Run.BAD).damage(-1, i, Run.BAD).readable(12, false);
        }
        x.pending(20).durable(0).scrub(0).gives(0, 112).flush(20).write(0, 1, 1);
    }

    private static void laterCalls() {
        IntegrityLayer x = new IntegrityLayer();
        int[] edges = {LEAST, -1, 0, 11, 12, 20, GREATEST};
        int calls = 0;
        for (int round = 0; round < 5000; round++) {
            int edge = edges[round % edges.length];
            x.write(round % 12, round);
            x.write(edge, edge);
            x.damage(edge, edge);
            x.read(edge);
            x.readable(edge);
            x.scrub();
            x.atRisk();
            x.pending();
            x.durable();
            calls += 9;
            // Twenty rounds and more without these, so that it is full again and again.
            if (round % 30 > 24) {
                x.flushSome(edge);
                x.crash(edge);
                x.flush();
                calls += 3;
            }
        }
        Due.holds("more than 512 calls were made", calls > 512);
    }

    private static void twelveSectors() {
        Run x = new Run();
        for (int s = 0; s < 12; s++) {
            x.write(s, 1000 + s, s + 1);
        }
        for (int s = 0; s < 12; s++) {
            x.gives(s, 1000 + s);
        }
        x.flush(12);
        for (int s = 0; s < 12; s++) {
            x.gives(s, 1000 + s);
            x.damage(s, 1, 1).fails(s).scrub(s + 1);
        }
        Run y = new Run();
        for (int sector : Run.noSectors()) {
            y.write(sector, 1, Run.BAD).damage(sector, 1, Run.BAD).fails(sector);
        }
    }

    private static void anIntEach() {
        int[] values = {LEAST, LEAST + 1, -65536, -32769, -129, -2, -1, 0, 1, 128, 256, 32768, 65536, GREATEST - 1, GREATEST};
        for (int value : values) {
            for (int sector : new int[] {0, 11}) {
                new Run().write(sector, value, 1).gives(sector, value)
                    .flush(1).gives(sector, value)
                    .write(sector, ~value, 1).gives(sector, ~value)
                    .crash(0, 1).gives(sector, value)
                    .write(sector, ~value, 1).crash(1, 0).gives(sector, ~value);
            }
        }
    }

    private static void atFirstOnlyPending() {
        new Run().write(0, 5, 1).durable(0).pending(1).crash(0, 1).gives(0, 0);
        new Run().fill(20).durable(0).pending(20).crash(0, 20).durable(0).gives(11, 0);
    }

    private static void inOrder() {
        new Run().write(4, 1, 1).write(4, 2, 2).flush(2).gives(4, 2);
        Run x = new Run();
        for (int i = 1; i <= 20; i++) {
            x.write(4, 21 - i, i);
        }
        x.flush(20).gives(4, 1);
        // One by one, from a full device: after each step a crash would leave that step's write.
        for (int steps = 1; steps <= 20; steps++) {
            Run y = new Run();
            for (int i = 1; i <= 20; i++) {
                y.write(11, i * i, i);
            }
            for (int i = 0; i < steps; i++) {
                y.flushSome(1, 1);
            }
            y.gives(11, 400).crash(0, 20 - steps).gives(11, steps * steps);
        }
    }

    private static void atMostTwenty() {
        new Run().fill(19).write(7, 1, 20).write(7, 2, Run.FULL).pending(20);
        // Twenty writes, not twenty sectors: writes to one sector, of one value, count each.
        Run x = new Run();
        for (int i = 1; i <= 20; i++) {
            x.write(3, 3, i);
        }
        x.write(3, 3, Run.FULL).write(4, 3, Run.FULL).pending(20);
        // Each write that is no longer pending leaves a place, and no more than one.
        x.flushSome(1, 1).write(3, 3, 20).write(3, 3, Run.FULL);
        x.flushSome(2, 2).write(3, 3, 19).write(3, 3, 20).write(3, 3, Run.FULL);
        x.flush(20).fill(20).write(0, 0, Run.FULL);
        x.crash(0, 20).fill(20).write(0, 0, Run.FULL);
        x.crash(20, 0).fill(20).write(0, 0, Run.FULL);
    }

    private static void newestPending() {
        // The oldest place, the newest place, and a newest write with others on both sides.
        new Run().fill(20).gives(8, 108).gives(7, 119).gives(0, 112).gives(11, 111);
        new Run().write(5, 1, 1).gives(5, 1).write(6, 2, 2).gives(5, 1).write(5, 3, 3).gives(5, 3);
        // It stays the newest while older ones become durable.
        Run x = new Run().write(5, 1, 1).write(5, 2, 2).write(5, 3, 3);
        x.flushSome(1, 1).gives(5, 3).flushSome(1, 1).gives(5, 3).flushSome(1, 1).gives(5, 3);
        // A pending 0, or a pending value that looks like a refusal, is a write like any other.
        new Run().write(2, 9, 1).flush(1).write(2, 0, 1).gives(2, 0).write(2, -1, 2).gives(2, -1).write(2, -2, 3).gives(2, -2);
    }

    private static void elseDurable() {
        new Run().write(0, 6, 1).write(11, 7, 2).flush(2).gives(0, 6).gives(11, 7)
            .write(1, 8, 1).write(10, 9, 2).gives(0, 6).gives(11, 7)
            .write(0, 5, 3).crash(0, 3).gives(0, 6).gives(1, 0).gives(10, 0);
    }

    private static void noneEverDurable() {
        Run x = new Run().fill(11).gives(11, 0).flush(11).gives(11, 0);
        x.write(11, 4, 1).gives(11, 4).crash(0, 1).gives(11, 0);
        x.write(0, 1, 1).write(11, 4, 2).crash(1, 1).gives(11, 0);
        x.write(11, 4, 1).flushSome(0, 0).crash(LEAST, 1).gives(11, 0);
    }

    private static void covered() {
        new Run().write(5, 50, 1).flush(1).damage(5, 1, 1).fails(5)
            .write(4, 1, 1).write(6, 1, 2).fails(5)
            .write(5, 51, 3).gives(5, 51).gives(4, 1).gives(6, 1)
            .flushSome(2, 2).gives(5, 51).scrub(1)
            .crash(0, 1).fails(5);
        // A cover of 0, made before the damage, in the oldest place of a full device.
        Run x = new Run().write(0, 0, 1);
        for (int i = 2; i <= 20; i++) {
            x.write(1 + i % 11, i, i);
        }
        x.damage(0, -1, 1).gives(0, 0).damage(11, -1, 1).gives(11, 10).crash(0, 20).fails(0).fails(11);
        // A refused write covers nothing.
        new Run().damage(11, 1, 1).write(12, 1, Run.BAD).fails(11);
        Run full = new Run().damage(11, 1, 1);
        for (int i = 1; i <= 20; i++) {
            full.write(0, i, i);
        }
        full.write(11, 1, Run.FULL).fails(11);
    }

    private static void keptAsIfFlushed() {
        for (int kept : new int[] {LEAST, -1, 0, 1, 2, 10, 19, 20, 21, GREATEST}) {
            Twins.areAlike("crash(" + kept + ") as flushSome(" + kept + ") and a crash",
                x -> {
                    damagedAndFull(x);
                    x.crash(kept);
                },
                x -> {
                    damagedAndFull(x);
                    x.flushSome(kept);
                    x.crash(0);
                });
        }
    }

    private static void damagedAndFull(IntegrityLayer x) {
        x.damage(0, 1);
        x.damage(7, 1);
        x.damage(11, 1);
        writeSome(x, 20);
    }

    private static void writeSome(IntegrityLayer x, int count) {
        for (int i = 0; i < count; i++) {
            x.write(i % 12, 100 + i);
        }
    }

    private static void othersNeverMade() {
        for (int kept = 0; kept <= 20; kept++) {
            int made = kept;
            Twins.areAlike("crash(" + kept + ") of twenty as " + kept + " writes and a flush",
                x -> {
                    writeSome(x, 20);
                    x.crash(made);
                },
                x -> {
                    writeSome(x, made);
                    x.flush();
                });
        }
        new Run().fill(20).crash(5, 15).flush(0).crash(GREATEST, 0).durable(5).atRisk(0).fill(20);
    }

    /** The pending writes go round once and many times over twenty places, nineteen or twenty of them taken. */
    private static void wrapAround() {
        for (int rounds : new int[] {1, 2, 18, 19, 20, 21, 22, 39, 40, 41, 60, 100, 200}) {
            for (int kept : new int[] {0, 1, 2, 10, 19, 20}) {
                Run x = new Run().fill(20);
                for (int i = 20; i < 20 + rounds; i++) {
                    x.flushSome(1, 1).write(i % 12, 100 + i, 20);
                }
                x.holdsFirst(20 + rounds).write(0, 1, Run.FULL).durable(rounds);
                x.crash(kept, 20 - kept).holdsFirst(rounds + kept).durable(rounds + kept);
            }
        }
        // Three places taken at a time, and the third write lost.
        Run y = new Run();
        for (int i = 0; i < 50; i++) {
            y.write(3, 7 * i, 1).write(3, 7 * i + 1, 2).write(3, 7 * i + 2, 3);
            y.flushSome(2, 2).gives(3, 7 * i + 2).crash(0, 1).gives(3, 7 * i + 1);
        }
    }

    private static void spoilsDurableOnly() {
        new Run().write(2, 5, 1).flush(1).write(2, 6, 1).write(2, 7, 2).damage(2, -1, 1)
            .gives(2, 7).pending(2).flushSome(1, 1).gives(2, 7).crash(0, 1).gives(2, 6);
        new Run().write(1, 5, 1).write(2, 6, 2).write(3, 7, 3).flush(3).damage(2, -1, 1).gives(1, 5).gives(3, 7);
    }

    private static void staysDamaged() {
        Run x = new Run().write(5, 50, 1).flush(1).damage(5, 8, 1);
        x.flush(0).flushSome(GREATEST, 0).crash(GREATEST, 0).scrub(1).fails(5);
        x.damage(5, 0, 1).damage(5, 8, 1).fails(5);
        x.write(4, 1, 1).write(6, 1, 2).flush(2).fails(5);
        x.write(5, 50, 1).scrub(1).damage(5, 0, 1).flushSome(0, 0).scrub(1).crash(0, 1).fails(5);
        x.write(4, 1, 1).write(5, 50, 2).flushSome(1, 1).scrub(1).crash(LEAST, 1).fails(5);
        x.write(4, 1, 1).write(5, 50, 2).crash(1, 1).scrub(1).fails(5);
        x.write(-1, 50, Run.BAD).write(12, 50, Run.BAD).flush(0).fails(5);
    }

    private static void damageEnds() {
        Run x = new Run().write(5, 50, 1).flush(1);
        x.damage(5, 8, 1).write(5, 50, 1).flush(1).gives(5, 50).scrub(0).damage(5, 0, 0);
        x.damage(5, 8, 1).write(5, 0, 1).flushSome(1, 1).gives(5, 0).scrub(0);
        x.damage(5, 8, 1).write(5, 51, 1).crash(1, 0).gives(5, 51).scrub(0);
        // The first of several writes ends it, and the sector then has that write's value.
        x.damage(5, 8, 1).write(5, 52, 1).write(5, 53, 2).flushSome(1, 1).scrub(0).crash(0, 1).gives(5, 52);
        // So does a write that was made before the damage and becomes durable after it.
        x.write(5, 54, 1).damage(5, 8, 1).flush(1).gives(5, 54).scrub(0);
        // Damage can come again.
        x.damage(5, 8, 1).fails(5).scrub(1);
        for (int s = 0; s < 12; s++) {
            new Run().damage(s, 1, 1).write(s, s, 1).flush(1).scrub(0).gives(s, s)
                .damage(s, 1, 1).write(s, -s, 1).flushSome(1, 1).scrub(0).gives(s, -s)
                .damage(s, 1, 1).write(s, s, 1).crash(1, 0).scrub(0).gives(s, s);
        }
    }

    private static void newSectors() {
        Run x = new Run();
        for (int s = 0; s < 12; s++) {
            x.read(s, 0);
        }
        // They are 0 on the medium too: a pending 0 would not be missed, and nothing turns up after a crash.
        for (int s = 0; s < 12; s++) {
            x.write(s, 0, s + 1);
        }
        x.atRisk(0).crash(0, 12);
        for (int s = 0; s < 12; s++) {
            x.gives(s, 0);
        }
    }

    private static void newUndamaged() {
        Run x = new Run().scrub(0);
        for (int s = 0; s < 12; s++) {
            x.readable(s, true).damage(s, 0, 0);
        }
    }

    private static void newNothingPending() {
        new Run().pending(0).atRisk(0).durable(0);
        new Run().flush(0).durable(0);
        new Run().flushSome(1, 0).durable(0);
        new Run().crash(0, 0).durable(0);
        new Run().crash(1, 0).durable(0);
        new Run().fill(20);
    }

    private static void newBesideUsed() {
        IntegrityLayer used = new IntegrityLayer();
        Run made = new Run();
        damagedAndFull(used);
        used.flushSome(3);
        made.pending(0).durable(0).scrub(0).gives(0, 0).gives(11, 0);
        new Run().pending(0).durable(0).scrub(0).gives(0, 0).gives(11, 0);
        made.damage(3, 1, 1).fill(4).flush(4);
        Due.is("the used object's pending()", used.pending(), 17);
        Due.is("the used object's scrub()", used.scrub(), 2);
        Due.is("the used object's read(3)", used.read(3), 115);
        Due.is("the used object's durable()", used.durable(), 3);
    }
}
