import java.util.LinkedHashMap;
import java.util.Map;
import java.util.Set;
import java.util.TreeSet;
import java.util.function.ToIntFunction;

/** Every answer of every getter, so that a test can tell what a call changed. */
final class Snapshot {
    private static final Map<String, ToIntFunction<TraitFlattener>> GETTERS = new LinkedHashMap<>();

    static {
        bodies();
        owners();
        components();
        lookups();
        GETTERS.put("runStatus()", TraitFlattener::runStatus);
    }

    private final int[] answers = new int[GETTERS.size()];

    static Snapshot of(TraitFlattener x) {
        Snapshot all = new Snapshot();
        int next = 0;
        for (ToIntFunction<TraitFlattener> getter : GETTERS.values()) {
            all.answers[next++] = getter.applyAsInt(x);
        }
        return all;
    }

    /** The calls whose answers differ between the two. */
    Set<String> changedIn(Snapshot later) {
        Set<String> changed = new TreeSet<>();
        int next = 0;
        for (String call : GETTERS.keySet()) {
            if (answers[next] != later.answers[next]) {
                changed.add(call);
            }
            next++;
        }
        return changed;
    }

    private static void bodies() {
        for (int body : Make.range(-1, 16)) {
            GETTERS.put("bodyLength(" + body + ")", x -> x.bodyLength(body));
            for (int i : Make.range(-1, 16)) {
                GETTERS.put("code(" + body + ", " + i + ")", x -> x.code(body, i));
            }
        }
    }

    private static void owners() {
        for (int owner : Make.range(-1, 16)) {
            GETTERS.put("superOf(" + owner + ")", x -> x.superOf(owner));
            for (int sel : Make.range(-1, 16)) {
                GETTERS.put("ownMethod(" + owner + ", " + sel + ")", x -> x.ownMethod(owner, sel));
                GETTERS.put("provided(" + owner + ", " + sel + ")", x -> x.provided(owner, sel));
            }
        }
    }

    private static void components() {
        for (int comp : Make.range(-1, 16)) {
            for (int field : Make.range(-1, 32)) {
                GETTERS.put("componentInfo(" + comp + ", " + field + ")", x -> x.componentInfo(comp, field));
            }
        }
    }

    private static void lookups() {
        for (int cls : Make.range(-1, 8)) {
            for (int sel : Make.range(-1, 16)) {
                for (int kind : Make.range(-1, 4)) {
                    GETTERS.put("lookup(" + cls + ", " + sel + ", " + kind + ")", x -> x.lookup(cls, sel, kind));
                }
            }
        }
    }
}
