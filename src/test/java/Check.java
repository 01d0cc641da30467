import java.util.Set;
import java.util.TreeSet;
import java.util.function.BooleanSupplier;
import java.util.function.IntSupplier;

/** Gathers the answers of one test that are not the ones due. */
final class Check {
    private int wrong = 0;

    void same(String call, long got, long want) {
        if (got != want) {
            wrong++;
            System.out.println(call + " answered " + got + ", due is " + want);
        }
    }

    void yes(String call, boolean got) {
        same(call, got ? 1L : 0L, 1L);
    }

    void no(String call, boolean got) {
        same(call, got ? 1L : 0L, 0L);
    }

    /** The call answers false and changes nothing. */
    void refused(TraitFlattener x, String call, BooleanSupplier made) {
        Snapshot before = Snapshot.of(x);
        no(call, made.getAsBoolean());
        changed(x, call, before);
    }

    /** The call answers the number that tells a refusal and changes nothing. */
    void refused(TraitFlattener x, String call, IntSupplier made, int want) {
        Snapshot before = Snapshot.of(x);
        same(call, made.getAsInt(), want);
        changed(x, call, before);
    }

    /** Since the earlier snapshot, these getters and no others changed their answers. */
    void changed(TraitFlattener x, String call, Snapshot before, String... getters) {
        Set<String> got = before.changedIn(Snapshot.of(x));
        Set<String> want = new TreeSet<>(Set.of(getters));
        if (!got.equals(want)) {
            wrong++;
            System.out.println(call + " changed " + got + ", due is " + want);
        }
    }

    /** A test of its own for one sentence of the document, which is told if it does not hold. */
    void holds(String sentence, Runnable test) {
        int before = wrong;
        try {
            test.run();
        } catch (RuntimeException failure) {
            wrong++;
            System.out.println("no answer but " + failure);
        }
        if (wrong != before) {
            System.out.println("broken: " + sentence);
        }
    }

    void end() {
        if (wrong != 0) {
            System.out.println(wrong + " answers are not as due");
            System.exit(1);
        }
    }
}
