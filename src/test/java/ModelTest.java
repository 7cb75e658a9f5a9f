import java.util.ArrayList;
import java.util.HashMap;
import java.util.HashSet;
import java.util.List;
import java.util.Map;
import java.util.Set;

/** Long mixed runs, each answer compared with a model that follows the document's words literally. */
public final class ModelTest {
    private static final int RUNS = 3000;
    private static final int CALLS = 512;

    /** The device over the library's collections; atRisk really crashes a copy. */
    private static final class Model {
        final List<int[]> pending = new ArrayList<>();
        final Map<Integer, Integer> medium = new HashMap<>();
        final Set<Integer> damaged = new HashSet<>();
        int durable = 0;

        Model copy() {
            Model m = new Model();
            m.pending.addAll(pending);
            m.medium.putAll(medium);
            m.damaged.addAll(damaged);
            m.durable = durable;
            return m;
        }

        static boolean exists(int sector) {
            return 0 <= sector && sector <= 11;
        }

        int write(int sector, int value) {
            if (!exists(sector)) return -1;
            if (pending.size() == 20) return -2;
            pending.add(new int[] {sector, value});
            return pending.size();
        }

        int flushSome(int n) {
            int count = Math.max(0, Math.min(n, pending.size()));
            for (int i = 0; i < count; i++) {
                int[] w = pending.remove(0);
                medium.put(w[0], w[1]);
                damaged.remove(w[0]);
                durable++;
            }
            return count;
        }

        int crash(int kept) {
            flushSome(kept);
            int lost = pending.size();
            pending.clear();
            return lost;
        }

        int damage(int sector, int bits) {
            if (!exists(sector)) return -1;
            if (bits != 0) damaged.add(sector);
            return damaged.contains(sector) ? 1 : 0;
        }

        /** What a read gives, or null if it fails. */
        Integer look(int sector) {
            if (!exists(sector)) return null;
            Integer newest = null;
            for (int[] w : pending) {
                if (w[0] == sector) newest = w[1];
            }
            if (newest != null) return newest;
            return damaged.contains(sector) ? null : medium.getOrDefault(sector, 0);
        }

        int atRisk() {
            Model after = copy();
            after.crash(0);
            int count = 0;
            for (int s = 0; s < 12; s++) {
                if (!java.util.Objects.equals(look(s), after.look(s))) count++;
            }
            return count;
        }
    }

    // A fixed sequence, so that every run of this test makes the same calls.
    private static long state = 20261115L;

    private static int next(int bound) {
        state = state * 6364136223846793005L + 1442695040888963407L;
        return (int) ((state >>> 33) % bound);
    }

    private static int someSector(int spread) {
        if (next(16) != 0) return next(spread);
        int[] edges = {-1, 12, Integer.MIN_VALUE, Integer.MAX_VALUE, 11, 0};
        return edges[next(edges.length)];
    }

    private static int someCount() {
        if (next(8) != 0) return next(8);
        int[] edges = {-1, 0, 19, 20, 21, Integer.MIN_VALUE, Integer.MAX_VALUE};
        return edges[next(edges.length)];
    }

    private static int someValue() {
        if (next(8) != 0) return next(3);
        int[] edges = {-1, Integer.MIN_VALUE, Integer.MAX_VALUE};
        return edges[next(edges.length)];
    }

    public static void main(String[] args) {
        for (int run = 0; run < RUNS && !Due.anyWrong(); run++) {
            oneRun(run);
        }
        Due.end();
    }

    private static void oneRun(int run) {
        IntegrityLayer x = new IntegrityLayer();
        Model m = new Model();
        int spread = 1 + next(12);
        // Few flushes in some runs, so that the twenty places fill up.
        int writes = 4 + next(40);
        for (int call = 0; call < CALLS && !Due.anyWrong(); call++) {
            oneCall("run " + run + ", call " + call + ": ", x, m, spread, writes);
        }
    }

    private static void oneCall(String at, IntegrityLayer x, Model m, int spread, int writes) {
        int kind = next(10 + writes);
        int sector = someSector(spread);
        int value = someValue();
        int n = someCount();
        Integer look = m.look(sector);
        switch (kind) {
            case 0 -> Due.is(at + "flush()", x.flush(), m.flushSome(m.pending.size()));
            case 1 -> Due.is(at + "flushSome(" + n + ")", x.flushSome(n), m.flushSome(n));
            case 2 -> Due.is(at + "crash(" + n + ")", x.crash(n), m.crash(n));
            case 3 -> Due.is(at + "damage(" + sector + ", " + value + ")", x.damage(sector, value), m.damage(sector, value));
            case 4 -> Due.is(at + "scrub()", x.scrub(), m.damaged.size());
            case 5 -> Due.is(at + "read(" + sector + ")", x.read(sector), look == null ? 0 : look);
            case 6 -> Due.is(at + "readable(" + sector + ")", x.readable(sector), look != null);
            case 7 -> Due.is(at + "pending()", x.pending(), m.pending.size());
            case 8 -> Due.is(at + "atRisk()", x.atRisk(), m.atRisk());
            case 9 -> Due.is(at + "durable()", x.durable(), m.durable);
            default -> Due.is(at + "write(" + sector + ", " + value + ")", x.write(sector, value), m.write(sector, value));
        }
    }
}
