import java.util.function.Consumer;

/** Two new objects after different calls: whether anything that can be seen from outside tells them apart. */
final class Twins {
    private static final int MOST_PENDING = 20;

    private Twins() {
    }

    static void areAlike(String what, Consumer<IntegrityLayer> one, Consumer<IntegrityLayer> other) {
        compare(what, seen(made(one)), seen(made(other)));
        // What a crash leaves, for every number of kept writes, brings the pending writes and their order to light.
        for (int kept = 0; kept <= MOST_PENDING; kept++) {
            String then = what + ", then crash(" + kept + ")";
            IntegrityLayer first = made(one);
            IntegrityLayer second = made(other);
            Due.is(then, first.crash(kept), second.crash(kept));
            compare(then, seen(first), seen(second));
        }
    }

    private static IntegrityLayer made(Consumer<IntegrityLayer> calls) {
        IntegrityLayer x = new IntegrityLayer();
        calls.accept(x);
        return x;
    }

    private static void compare(String what, String[] one, String[] other) {
        for (int i = 0; i < one.length; i++) {
            Due.holds(what + ": alike in " + one[i] + " and " + other[i], one[i].equals(other[i]));
        }
    }

    private static String[] seen(IntegrityLayer x) {
        String[] all = new String[4 + 3 * 12];
        int i = 0;
        all[i++] = "pending() = " + x.pending();
        all[i++] = "durable() = " + x.durable();
        all[i++] = "atRisk() = " + x.atRisk();
        all[i++] = "scrub() = " + x.scrub();
        for (int s = 0; s < 12; s++) {
            all[i++] = "read(" + s + ") = " + x.read(s);
            all[i++] = "readable(" + s + ") = " + x.readable(s);
            all[i++] = "damage(" + s + ", 0) = " + x.damage(s, 0);
        }
        return all;
    }
}
