/** Each promise by hand-made runs: ordinary inputs, the edges the document names, wrong inputs. */
public final class PromisesTest {
    private static final int BAD = IntegrityLayer.BAD_SECTOR;
    private static final int FULL = IntegrityLayer.FULL;
    private static final int[] NO_SECTORS = {-1, 12, 13, -12, Integer.MIN_VALUE, Integer.MAX_VALUE};
    private static final int[] VALUES = {1, -1, 7, Integer.MIN_VALUE, Integer.MAX_VALUE, 0};

    public static void main(String[] args) {
        constants();
        promise1NewObject();
        promise2Write();
        promise3Flush();
        promise4FlushSome();
        promise5Crash();
        promise6Damage();
        promise6DamageUnderPendingWrites();
        promise7Scrub();
        promise8Read();
        promise9Readable();
        promise10Pending();
        promise11AtRisk();
        promise11AtRiskUnderDamage();
        promise12Durable();
        promise13Order();
        queriesChangeNothing();
        fiveHundredTwelveCalls();
        Due.end();
    }

    private static IntegrityLayer withPending(int count) {
        IntegrityLayer x = new IntegrityLayer();
        for (int i = 0; i < count; i++) {
            x.write(i % 12, 100 + i);
        }
        return x;
    }

    private static void dueRead(String where, IntegrityLayer x, int sector, int value) {
        Due.is(where + ": read(" + sector + ")", x.read(sector), value);
        Due.is(where + ": readable(" + sector + ")", x.readable(sector), true);
    }

    private static void dueFails(String where, IntegrityLayer x, int sector) {
        Due.is(where + ": read(" + sector + ")", x.read(sector), 0);
        Due.is(where + ": readable(" + sector + ")", x.readable(sector), false);
    }

    private static void constants() {
        Due.is("BAD_SECTOR", IntegrityLayer.BAD_SECTOR, -1);
        Due.is("FULL", IntegrityLayer.FULL, -2);
    }

    private static void promise1NewObject() {
        IntegrityLayer x = new IntegrityLayer();
        for (int s = 0; s < 12; s++) {
            dueRead("1", x, s, 0);
        }
        Due.is("1: scrub()", x.scrub(), 0);
        Due.is("1: pending()", x.pending(), 0);
        Due.is("1: atRisk()", x.atRisk(), 0);
        Due.is("1: durable()", x.durable(), 0);
        Due.is("1: flush()", x.flush(), 0);
        Due.is("1: crash(3)", x.crash(3), 0);

        IntegrityLayer used = withPending(20);
        used.flush();
        used.damage(3, 1);
        used.write(4, 4);
        IntegrityLayer other = new IntegrityLayer();
        dueRead("1: beside a used object", other, 0, 0);
        dueRead("1: beside a used object", other, 3, 0);
        Due.is("1: beside a used object: pending()", other.pending(), 0);
        Due.is("1: beside a used object: durable()", other.durable(), 0);
    }

    private static void promise2Write() {
        IntegrityLayer x = new IntegrityLayer();
        for (int i = 0; i < 20; i++) {
            Due.is("2: write no. " + (i + 1), x.write(i % 12, 50 + i), i + 1);
        }
        Due.is("2: write no. 21", x.write(0, 999), FULL);
        Due.is("2: write no. 21 again", x.write(11, 999), FULL);
        Due.is("2: pending() when full", x.pending(), 20);
        dueRead("2: refused write", x, 0, 62);
        dueRead("2: refused write", x, 11, 61);
        Due.is("2: flushSome(1) when full", x.flushSome(1), 1);
        Due.is("2: write into the free place", x.write(5, -5), 20);
        Due.is("2: write after that", x.write(5, -6), FULL);
        dueRead("2: after the free place was taken", x, 5, -5);
        Due.is("2: flush()", x.flush(), 20);
        dueRead("2: after flush", x, 5, -5);
        dueRead("2: after flush", x, 0, 62);

        IntegrityLayer y = new IntegrityLayer();
        for (int sector : NO_SECTORS) {
            Due.is("2: write(" + sector + ", 9)", y.write(sector, 9), BAD);
        }
        Due.is("2: pending() after wrong writes", y.pending(), 0);
        Due.is("2: flush() after wrong writes", y.flush(), 0);
        for (int s = 0; s < 12; s++) {
            dueRead("2: after wrong writes", y, s, 0);
        }
        for (int value : VALUES) {
            y.write(6, value);
            dueRead("2: any int, pending", y, 6, value);
            y.flush();
            dueRead("2: any int, durable", y, 6, value);
        }
    }

    private static void promise3Flush() {
        IntegrityLayer x = new IntegrityLayer();
        x.write(0, 1);
        x.write(11, 2);
        x.write(0, 3);
        Due.is("3: flush()", x.flush(), 3);
        Due.is("3: pending()", x.pending(), 0);
        Due.is("3: durable()", x.durable(), 3);
        dueRead("3: the last write stands", x, 0, 3);
        dueRead("3", x, 11, 2);
        Due.is("3: crash(0)", x.crash(0), 0);
        dueRead("3: after a crash", x, 0, 3);
        dueRead("3: after a crash", x, 11, 2);
        Due.is("3: second flush()", x.flush(), 0);
        Due.is("3: durable() after an empty flush", x.durable(), 3);

        IntegrityLayer y = withPending(20);
        Due.is("3: flush() of twenty", y.flush(), 20);
        Due.is("3: crash(20) after it", y.crash(20), 0);
        for (int s = 0; s < 12; s++) {
            dueRead("3: after a flush of twenty", y, s, s < 8 ? 112 + s : 100 + s);
        }
    }

    private static void promise4FlushSome() {
        int[] asked = {Integer.MIN_VALUE, -1, 0, 1, 4, 5, 6, 20, Integer.MAX_VALUE};
        int[] adjusted = {0, 0, 0, 1, 4, 5, 5, 5, 5};
        for (int i = 0; i < asked.length; i++) {
            String where = "4: flushSome(" + asked[i] + ") of five";
            IntegrityLayer x = withPending(5);
            Due.is(where, x.flushSome(asked[i]), adjusted[i]);
            Due.is(where + ": pending()", x.pending(), 5 - adjusted[i]);
            Due.is(where + ": durable()", x.durable(), adjusted[i]);
            for (int s = 0; s < 5; s++) {
                dueRead(where, x, s, 100 + s);
            }
            x.crash(0);
            for (int s = 0; s < 5; s++) {
                dueRead(where + ", crash(0)", x, s, s < adjusted[i] ? 100 + s : 0);
            }
        }
        IntegrityLayer y = new IntegrityLayer();
        Due.is("4: flushSome(3) of none", y.flushSome(3), 0);
        y.write(2, 1);
        y.write(2, 2);
        y.write(3, 9);
        y.write(2, 3);
        y.flushSome(2);
        dueRead("4: the others stay pending", y, 2, 3);
        y.write(3, 10);
        Due.is("4: the others stay in order: flushSome(1)", y.flushSome(1), 1);
        Due.is("4: the others stay in order: crash(1)", y.crash(1), 1);
        dueRead("4: the others stay in order", y, 2, 3);
        dueRead("4: the others stay in order", y, 3, 9);
    }

    private static void promise5Crash() {
        int[] asked = {Integer.MIN_VALUE, -1, 0, 1, 4, 5, 6, 20, Integer.MAX_VALUE};
        int[] adjusted = {0, 0, 0, 1, 4, 5, 5, 5, 5};
        for (int i = 0; i < asked.length; i++) {
            String where = "5: crash(" + asked[i] + ") of five";
            IntegrityLayer x = withPending(5);
            Due.is(where, x.crash(asked[i]), 5 - adjusted[i]);
            Due.is(where + ": pending()", x.pending(), 0);
            Due.is(where + ": durable()", x.durable(), adjusted[i]);
            for (int s = 0; s < 5; s++) {
                dueRead(where, x, s, s < adjusted[i] ? 100 + s : 0);
            }
            Due.is(where + ": flush()", x.flush(), 0);
            Due.is(where + ": the next write", x.write(1, 1), 1);
        }
        IntegrityLayer y = new IntegrityLayer();
        y.write(7, 1);
        y.flush();
        y.write(7, 2);
        y.write(7, 3);
        Due.is("5: crash(1) of two to one sector", y.crash(1), 1);
        dueRead("5: the kept one stands", y, 7, 2);
        y.write(7, 4);
        Due.is("5: crash(0)", y.crash(0), 1);
        dueRead("5: the durable value comes back", y, 7, 2);

        IntegrityLayer z = new IntegrityLayer();
        z.damage(4, 1);
        z.write(4, 8);
        z.crash(0);
        dueFails("5: a lost write repairs nothing", z, 4);
        z.write(4, 8);
        z.crash(1);
        dueRead("5: a kept write ends the damage", z, 4, 8);
        z.damage(4, 1);
        z.crash(5);
        dueFails("5: a crash alone ends no damage", z, 4);
    }

    private static void promise6Damage() {
        IntegrityLayer x = new IntegrityLayer();
        Due.is("6: damage(0, 0)", x.damage(0, 0), 0);
        dueRead("6: bits 0", x, 0, 0);
        int[] someBits = {1, 2, -1, Integer.MIN_VALUE, Integer.MAX_VALUE};
        for (int i = 0; i < someBits.length; i++) {
            Due.is("6: damage(" + i + ", " + someBits[i] + ")", x.damage(i, someBits[i]), 1);
            dueFails("6", x, i);
            Due.is("6: damage() with bits 0 on a damaged sector", x.damage(i, 0), 1);
            Due.is("6: the same bits once more", x.damage(i, someBits[i]), 1);
            dueFails("6: the same bits once more", x, i);
        }
        Due.is("6: damage(11, 5)", x.damage(11, 5), 1);
        dueFails("6", x, 11);
        Due.is("6: scrub()", x.scrub(), 6);
        for (int sector : NO_SECTORS) {
            Due.is("6: damage(" + sector + ", 1)", x.damage(sector, 1), BAD);
        }
        Due.is("6: scrub() after wrong sectors", x.scrub(), 6);
        Due.is("6: pending()", x.pending(), 0);
        Due.is("6: durable()", x.durable(), 0);

        x.write(0, 77);
        x.flush();
        dueRead("6: a durable write ends the damage", x, 0, 77);
        Due.is("6: damage(0, 0) after the repair", x.damage(0, 0), 0);
        dueFails("6: a write elsewhere ends nothing", x, 1);
        Due.is("6: damage to a repaired sector", x.damage(0, 4), 1);
        dueFails("6: damage to a repaired sector", x, 0);
    }

    private static void promise6DamageUnderPendingWrites() {
        IntegrityLayer x = new IntegrityLayer();
        x.write(5, 10);
        x.flush();
        x.write(5, 11);
        Due.is("6: damage under a pending write", x.damage(5, 1), 1);
        Due.is("6: bits 0 under a pending write", x.damage(5, 0), 1);
        dueRead("6: the pending write covers", x, 5, 11);
        Due.is("6: flushSome(0)", x.flushSome(0), 0);
        Due.is("6: still damaged", x.scrub(), 1);
        Due.is("6: a write made before the damage becomes durable", x.flush(), 1);
        Due.is("6: which ends the damage", x.scrub(), 0);
        dueRead("6: after that", x, 5, 11);

        x.write(6, 1);
        x.write(5, 12);
        x.damage(5, 1);
        x.flushSome(1);
        Due.is("6: the covering write isn't flushed yet", x.scrub(), 1);
        x.crash(0);
        dueFails("6: the covering write is lost", x, 5);
    }

    private static void promise7Scrub() {
        IntegrityLayer x = new IntegrityLayer();
        for (int s = 0; s < 12; s++) {
            Due.is("7: scrub() with " + s + " damaged", x.scrub(), s);
            x.damage(s, s + 1);
        }
        Due.is("7: scrub() with all damaged", x.scrub(), 12);
        Due.is("7: scrub() repairs nothing", x.scrub(), 12);
        for (int s = 0; s < 12; s++) {
            x.write(s, s);
        }
        Due.is("7: pending writes don't matter", x.scrub(), 12);
        Due.is("7: scrub() leaves them pending", x.pending(), 12);
        for (int s = 0; s < 12; s++) {
            x.flushSome(1);
            Due.is("7: scrub() with " + (s + 1) + " repaired", x.scrub(), 11 - s);
        }
        x.damage(11, 1);
        x.write(11, 1);
        x.crash(0);
        Due.is("7: after a lost write", x.scrub(), 1);
        dueFails("7: after scrub", x, 11);
    }

    private static void promise8Read() {
        IntegrityLayer x = new IntegrityLayer();
        x.write(0, 5);
        x.write(11, 6);
        Due.is("8: read(0) of a pending write", x.read(0), 5);
        x.write(0, 7);
        Due.is("8: the newest pending write", x.read(0), 7);
        Due.is("8: another sector", x.read(11), 6);
        Due.is("8: an unwritten sector", x.read(1), 0);
        x.flushSome(1);
        Due.is("8: pending before durable", x.read(0), 7);
        x.write(0, 0);
        Due.is("8: a pending 0 before a durable 5", x.read(0), 0);
        x.crash(0);
        Due.is("8: the durable value", x.read(0), 5);
        x.damage(0, 1);
        Due.is("8: a damaged sector", x.read(0), 0);
        x.write(0, 9);
        Due.is("8: a damaged sector, covered", x.read(0), 9);
        for (int sector : NO_SECTORS) {
            Due.is("8: read(" + sector + ")", x.read(sector), 0);
        }
    }

    private static void promise9Readable() {
        IntegrityLayer x = new IntegrityLayer();
        for (int sector : NO_SECTORS) {
            Due.is("9: readable(" + sector + ")", x.readable(sector), false);
        }
        for (int s = 0; s < 12; s++) {
            Due.is("9: readable(" + s + ")", x.readable(s), true);
            x.damage(s, 1);
            Due.is("9: damaged, readable(" + s + ")", x.readable(s), false);
        }
        x.write(3, 0);
        Due.is("9: covered by a pending 0", x.readable(3), true);
        Due.is("9: the neighbour isn't covered", x.readable(4), false);
        Due.is("9: the neighbour isn't covered", x.readable(2), false);
        x.write(3, 1);
        x.flushSome(1);
        Due.is("9: repaired and covered", x.readable(3), true);
        x.crash(0);
        Due.is("9: repaired", x.readable(3), true);
        x.write(4, 1);
        x.crash(0);
        Due.is("9: the cover is lost", x.readable(4), false);
    }

    private static void promise10Pending() {
        IntegrityLayer x = new IntegrityLayer();
        for (int i = 1; i <= 20; i++) {
            x.write(3, 3);
            Due.is("10: pending() after write no. " + i, x.pending(), i);
        }
        x.write(3, 4);
        Due.is("10: after a write that found it full", x.pending(), 20);
        x.write(12, 4);
        Due.is("10: after a write to no sector", x.pending(), 20);
        x.flushSome(7);
        Due.is("10: after flushSome(7)", x.pending(), 13);
        x.damage(3, 1);
        x.scrub();
        Due.is("10: after damage and scrub", x.pending(), 13);
        x.crash(2);
        Due.is("10: after crash(2)", x.pending(), 0);
        x.write(1, 1);
        x.flush();
        Due.is("10: after flush", x.pending(), 0);
    }

    private static void promise11AtRisk() {
        IntegrityLayer x = new IntegrityLayer();
        x.write(0, 0);
        Due.is("11: a pending 0 over 0", x.atRisk(), 0);
        x.write(0, 4);
        Due.is("11: a pending 4 over 0", x.atRisk(), 1);
        x.write(0, 5);
        Due.is("11: a sector counts once", x.atRisk(), 1);
        x.write(0, 0);
        Due.is("11: back to the durable value", x.atRisk(), 0);
        x.write(11, 1);
        x.write(10, 1);
        Due.is("11: two other sectors", x.atRisk(), 2);
        x.flushSome(2);
        Due.is("11: a pending 0 over a durable 4", x.atRisk(), 3);
        x.flush();
        Due.is("11: after flush", x.atRisk(), 0);
        x.write(10, 1);
        Due.is("11: the same value again", x.atRisk(), 0);
        x.write(10, 2);
        Due.is("11: another value", x.atRisk(), 1);
        x.crash(0);
        Due.is("11: after crash", x.atRisk(), 0);
        for (int s = 0; s < 12; s++) {
            x.write(s, -1 - s);
        }
        Due.is("11: all sectors", x.atRisk(), 12);
    }

    private static void promise11AtRiskUnderDamage() {
        IntegrityLayer x = new IntegrityLayer();
        x.damage(2, 1);
        Due.is("11: damaged, fails now and then", x.atRisk(), 0);
        x.write(2, 0);
        Due.is("11: damaged, a pending 0 reads now and fails then", x.atRisk(), 1);
        x.write(3, 6);
        x.flush();
        x.write(3, 6);
        Due.is("11: the durable value pending", x.atRisk(), 0);
        x.damage(3, 6);
        Due.is("11: and then damaged", x.atRisk(), 1);
        x.write(3, 7);
        x.flushSome(1);
        Due.is("11: repaired under another pending value", x.atRisk(), 1);
        x.write(3, 6);
        Due.is("11: repaired under the same pending value", x.atRisk(), 0);
    }

    private static void promise12Durable() {
        IntegrityLayer x = withPending(10);
        Due.is("12: only pending", x.durable(), 0);
        x.flushSome(3);
        Due.is("12: after flushSome(3)", x.durable(), 3);
        x.crash(2);
        Due.is("12: after crash(2)", x.durable(), 5);
        x.write(1, 1);
        x.write(1, 1);
        x.write(1, 1);
        x.flush();
        Due.is("12: equal writes count each", x.durable(), 8);
        x.damage(1, 1);
        x.scrub();
        Due.is("12: damage takes nothing away", x.durable(), 8);
        x.write(1, 1);
        x.flushSome(100);
        Due.is("12: after flushSome(100) of one", x.durable(), 9);
        x.write(1, 1);
        x.crash(-4);
        x.flushSome(-4);
        Due.is("12: after crash(-4) and flushSome(-4)", x.durable(), 9);
        x.write(1, 1);
        x.crash(100);
        Due.is("12: after crash(100) of one", x.durable(), 10);
    }

    private static void promise13Order() {
        IntegrityLayer x = withPending(20);
        for (int sector : NO_SECTORS) {
            Due.is("13: full, write(" + sector + ", 1)", x.write(sector, 1), BAD);
            Due.is("13: damage(" + sector + ", 0)", x.damage(sector, 0), BAD);
        }
        Due.is("13: full, write(0, 1)", x.write(0, 1), FULL);
        Due.is("13: full, write(11, 1)", x.write(11, 1), FULL);
        Due.is("13: pending()", x.pending(), 20);
        Due.is("13: scrub()", x.scrub(), 0);
    }

    private static void queriesChangeNothing() {
        IntegrityLayer x = withPending(15);
        x.flushSome(4);
        x.damage(0, 3);
        x.damage(9, 3);
        x.damage(2, 3);
        for (int round = 0; round < 3; round++) {
            Due.is("queries: pending()", x.pending(), 11);
            Due.is("queries: durable()", x.durable(), 4);
            Due.is("queries: atRisk()", x.atRisk(), 11);
            Due.is("queries: scrub()", x.scrub(), 3);
            dueRead("queries", x, 0, 112);
            dueRead("queries", x, 9, 109);
            dueRead("queries", x, 2, 114);
            dueRead("queries", x, 3, 103);
            Due.is("queries: read(12)", x.read(12), 0);
            Due.is("queries: readable(-1)", x.readable(-1), false);
        }
        Due.is("queries: flush()", x.flush(), 11);
        Due.is("queries: scrub() after flush", x.scrub(), 0);
    }

    private static void fiveHundredTwelveCalls() {
        IntegrityLayer x = new IntegrityLayer();
        for (int round = 1; round <= 24; round++) {
            for (int i = 0; i < 20; i++) {
                Due.is("512 calls: write", x.write(i % 12, round * 20 + i), i + 1);
            }
            Due.is("512 calls: flush()", x.flush(), 20);
        }
        for (int i = 0; i < 7; i++) {
            Due.is("512 calls: durable()", x.durable(), 480);
        }
        Due.is("512 calls: the last", x.read(7), 24 * 20 + 19);
    }
}
