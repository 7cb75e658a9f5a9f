/** The boundary cases of Promises 3, 4, 5 and 12, a test for each sentence. */
public final class FlushBoundaryTest {
    private static final int LEAST = Run.LEAST;
    private static final int GREATEST = Run.GREATEST;
    private static final int[] BELOW_0 = {-1, -2, -20, -21, LEAST + 1, LEAST};
    private static final int[] PENDING = {0, 1, 2, 11, 12, 13, 19, 20};

    public static void main(String[] args) {
        Due.sentence("Promise 3, \"all pending writes\", none", FlushBoundaryTest::flushOfNone);
        Due.sentence("Promise 3, \"all pending writes\", one to twenty", FlushBoundaryTest::flushOfAll);
        Due.sentence("Promise 3, \"one after the other\"", FlushBoundaryTest::flushInOrder);
        Due.sentence("Promise 3, \"Answers how many that were\"", FlushBoundaryTest::flushAnswers);

        Due.sentence("Promise 4, \"n below 0 counts as 0\"", FlushBoundaryTest::someBelow0);
        Due.sentence("Promise 4, n is 0", FlushBoundaryTest::someOf0);
        Due.sentence("Promise 4, \"above their number as their number\"", FlushBoundaryTest::someAbove);
        Due.sentence("Promise 4, n is their number", FlushBoundaryTest::someIsNumber);
        Due.sentence("Promise 4, \"the first n pending writes\"", FlushBoundaryTest::someFirst);
        Due.sentence("Promise 4, \"one after the other\"", FlushBoundaryTest::someInOrder);
        Due.sentence("Promise 4, \"the others stay pending, in order\"", FlushBoundaryTest::someOthersStay);
        Due.sentence("Promise 4, \"Answers n as adjusted\"", FlushBoundaryTest::someAnswers);

        Due.sentence("Promise 5, \"adjusted like n above\", kept below 0", FlushBoundaryTest::crashBelow0);
        Due.sentence("Promise 5, \"adjusted like n above\", kept above their number", FlushBoundaryTest::crashAbove);
        Due.sentence("Promise 5, kept is 0", FlushBoundaryTest::crashOf0);
        Due.sentence("Promise 5, kept is their number", FlushBoundaryTest::crashIsNumber);
        Due.sentence("Promise 5, \"the first 'kept' ... have become durable\"", FlushBoundaryTest::crashFirst);
        Due.sentence("Promise 5, \"the others are lost\"", FlushBoundaryTest::crashOthersLost);
        Due.sentence("Promise 5, \"Answers how many are lost\"", FlushBoundaryTest::crashAnswers);

        Due.sentence("Promise 12, 0 before any", FlushBoundaryTest::durableBeforeAny);
        Due.sentence("Promise 12, \"by flush, flushSome or crash\"", FlushBoundaryTest::durableByEach);
        Due.sentence("Promise 12, neither lost nor refused writes", FlushBoundaryTest::durableWithoutLost);
        Due.sentence("Promise 12, \"so far\"", FlushBoundaryTest::durableSoFar);
        Due.end();
    }

    private static void flushOfNone() {
        new Run().flush(0).pending(0).durable(0).gives(0, 0);
        new Run().damage(3, 1, 1).flush(0).scrub(1).fails(3);
        new Run().fill(3).flush(3).flush(0).durable(3).gives(2, 102);
        new Run().fill(3).crash(0, 3).flush(0).durable(0).gives(2, 0);
    }

    private static void flushOfAll() {
        for (int count = 1; count <= 20; count++) {
            new Run().fill(count).flush(count).pending(0).durable(count).atRisk(0)
                .holdsFirst(count).crash(0, 0).holdsFirst(count);
        }
    }

    private static void flushInOrder() {
        new Run().write(0, 1, 1).write(11, 2, 2).write(0, 3, 3).write(11, 0, 4).flush(4).gives(0, 3).gives(11, 0);
        Run x = new Run();
        for (int i = 1; i <= 20; i++) {
            x.write(6, 1000 - i, i);
        }
        x.flush(20).gives(6, 980);
    }

    private static void flushAnswers() {
        new Run().fill(20).flush(20).flush(0);
        new Run().fill(20).write(0, 1, Run.FULL).flush(20);
        new Run().fill(20).flushSome(19, 19).flush(1);
        new Run().write(12, 1, Run.BAD).flush(0);
        // Writes count, not sectors, and equal writes count each.
        new Run().write(2, 2, 1).write(2, 2, 2).write(2, 2, 3).flush(3).write(2, 2, 1).flush(1);
    }

    private static void someBelow0() {
        for (int n : BELOW_0) {
            for (int count : PENDING) {
                new Run().fill(count).flushSome(n, 0).pending(count).durable(0)
                    .holdsFirst(count).crash(0, count).holdsFirst(0);
            }
        }
        new Run().damage(0, 1, 1).fill(1).flushSome(LEAST, 0).scrub(1).gives(0, 100);
    }

    private static void someOf0() {
        for (int count : PENDING) {
            new Run().fill(count).flushSome(0, 0).pending(count).durable(0).crash(0, count).holdsFirst(0);
        }
    }

    private static void someAbove() {
        for (int count : PENDING) {
            for (int n : new int[] {count + 1, count + 2, 21, 256, GREATEST - 1, GREATEST}) {
                new Run().fill(count).flushSome(n, count).pending(0).durable(count).crash(0, 0).holdsFirst(count);
            }
        }
        // Above the number of the pending ones, though not above twenty, nor above the writes made so far.
        new Run().fill(20).flushSome(15, 15).flushSome(10, 5).flushSome(5, 0).durable(20);
    }

    private static void someIsNumber() {
        for (int count : PENDING) {
            new Run().fill(count).flushSome(count, count).pending(0).durable(count).crash(0, 0).holdsFirst(count);
        }
    }

    private static void someFirst() {
        for (int n = 0; n <= 20; n++) {
            new Run().fill(20).flushSome(n, n).durable(n).crash(0, 20 - n).holdsFirst(n);
        }
    }

    private static void someInOrder() {
        new Run().write(8, 1, 1).write(8, 2, 2).write(8, 3, 3).flushSome(2, 2).crash(0, 1).gives(8, 2);
        new Run().write(8, 3, 1).write(8, 2, 2).write(8, 1, 3).flushSome(3, 3).gives(8, 1);
    }

    private static void someOthersStay() {
        for (int n = 0; n <= 20; n++) {
            new Run().fill(20).flushSome(n, n).pending(20 - n).holdsFirst(20);
            // In order: any further number of them is the next ones.
            for (int more = 0; more <= 20 - n; more++) {
                new Run().fill(20).flushSome(n, n).flushSome(more, more).crash(0, 20 - n - more).holdsFirst(n + more);
            }
        }
        // And they stand before a write that is made later.
        new Run().write(1, 1, 1).write(2, 2, 2).write(3, 3, 3).flushSome(1, 1).write(2, 4, 3).gives(2, 4)
            .crash(2, 1).gives(2, 2).gives(3, 3);
    }

    private static void someAnswers() {
        for (int count : PENDING) {
            for (int n = 0; n <= 21; n++) {
                new Run().fill(count).flushSome(n, n < count ? n : count);
            }
            new Run().fill(count).flushSome(LEAST, 0).flushSome(GREATEST, count).flushSome(GREATEST, 0);
        }
    }

    private static void crashBelow0() {
        for (int kept : BELOW_0) {
            for (int count : PENDING) {
                new Run().fill(count).crash(kept, count).pending(0).durable(0).holdsFirst(0);
            }
        }
        new Run().damage(0, 1, 1).fill(1).crash(LEAST, 1).scrub(1).fails(0);
    }

    private static void crashAbove() {
        for (int count : PENDING) {
            for (int kept : new int[] {count + 1, count + 2, 21, 256, GREATEST - 1, GREATEST}) {
                new Run().fill(count).crash(kept, 0).pending(0).durable(count).holdsFirst(count);
            }
        }
        new Run().fill(20).flushSome(15, 15).crash(10, 0).durable(20).crash(GREATEST, 0).durable(20);
    }

    private static void crashOf0() {
        for (int count : PENDING) {
            new Run().fill(count).crash(0, count).pending(0).durable(0).atRisk(0).holdsFirst(0);
        }
    }

    private static void crashIsNumber() {
        for (int count : PENDING) {
            new Run().fill(count).crash(count, 0).pending(0).durable(count).holdsFirst(count);
        }
    }

    private static void crashFirst() {
        for (int kept = 0; kept <= 20; kept++) {
            new Run().fill(20).crash(kept, 20 - kept).durable(kept).holdsFirst(kept);
        }
        new Run().write(8, 1, 1).write(8, 2, 2).write(8, 3, 3).crash(2, 1).gives(8, 2);
        // The first of those still pending, not the first that were ever made.
        new Run().fill(6).flushSome(2, 2).crash(1, 3).durable(3).gives(2, 102).gives(3, 0);
    }

    private static void crashOthersLost() {
        new Run().fill(20).crash(1, 19).pending(0).flush(0).flushSome(GREATEST, 0).crash(GREATEST, 0)
            .gives(0, 100).gives(1, 0).gives(11, 0);
        // A lost write leaves what was durable before it.
        new Run().write(9, 4, 1).flush(1).write(9, 5, 1).write(9, 6, 2).crash(0, 2).gives(9, 4);
        // Nor does it come back with the writes made later.
        new Run().fill(20).crash(0, 20).write(7, 1, 1).gives(7, 1).gives(8, 0).flush(1).gives(7, 1).gives(8, 0).durable(1);
    }

    private static void crashAnswers() {
        for (int count : PENDING) {
            for (int kept = 0; kept <= 21; kept++) {
                new Run().fill(count).crash(kept, kept < count ? count - kept : 0).crash(0, 0);
            }
            new Run().fill(count).crash(LEAST, count);
            new Run().fill(count).crash(GREATEST, 0);
        }
        new Run().fill(20).write(0, 1, Run.FULL).write(12, 1, Run.BAD).crash(0, 20);
    }

    private static void durableBeforeAny() {
        new Run().durable(0);
        new Run().fill(20).durable(0);
        new Run().flush(0).flushSome(20, 0).crash(20, 0).durable(0);
        new Run().damage(0, 1, 1).scrub(1).durable(0);
    }

    private static void durableByEach() {
        new Run().fill(20).flush(20).durable(20);
        new Run().fill(20).flushSome(20, 20).durable(20);
        new Run().fill(20).crash(20, 0).durable(20);
        new Run().fill(20).flushSome(1, 1).durable(1).crash(1, 18).durable(2).write(0, 1, 1).flush(1).durable(3);
    }

    private static void durableWithoutLost() {
        new Run().fill(20).crash(0, 20).durable(0);
        new Run().fill(20).crash(LEAST, 20).durable(0);
        new Run().fill(20).crash(19, 1).durable(19).flush(0).durable(19);
        new Run().fill(20).write(0, 1, Run.FULL).write(-1, 1, Run.BAD).write(12, 1, Run.BAD).flush(20).durable(20);
        new Run().fill(5).flushSome(LEAST, 0).durable(0).flushSome(GREATEST, 5).durable(5);
    }

    private static void durableSoFar() {
        Run x = new Run();
        for (int i = 1; i <= 20; i++) {
            // The same write again and again counts each time, damaged sector or not.
            x.write(0, 7, 1).flushSome(1, 1).durable(i).damage(0, 1, 1).durable(i);
        }
        x.scrub(1).crash(5, 0).durable(20).flush(0).durable(20);
        x.fill(20).flush(20).durable(40).fill(20).crash(20, 0).durable(60);
    }
}
