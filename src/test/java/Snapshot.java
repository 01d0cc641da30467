import java.util.Map;
import java.util.Set;
import java.util.TreeMap;
import java.util.TreeSet;

/** Every answer of every getter, so that a test can tell what a call changed. */
final class Snapshot {
    private final Map<String, Integer> answers = new TreeMap<>();

    static Snapshot of(TraitFlattener x) {
        Snapshot all = new Snapshot();
        all.bodies(x);
        all.owners(x);
        all.components(x);
        all.lookups(x);
        all.answers.put("runStatus()", x.runStatus());
        return all;
    }

    /** The calls whose answers differ between the two. */
    Set<String> changedIn(Snapshot later) {
        Set<String> changed = new TreeSet<>();
        for (Map.Entry<String, Integer> entry : answers.entrySet()) {
            if (!entry.getValue().equals(later.answers.get(entry.getKey()))) {
                changed.add(entry.getKey());
            }
        }
        return changed;
    }

    private void bodies(TraitFlattener x) {
        for (int body = -1; body <= 16; body++) {
            answers.put("bodyLength(" + body + ")", x.bodyLength(body));
            for (int i = -1; i <= 16; i++) {
                answers.put("code(" + body + ", " + i + ")", x.code(body, i));
            }
        }
    }

    private void owners(TraitFlattener x) {
        for (int owner = -1; owner <= 16; owner++) {
            answers.put("superOf(" + owner + ")", x.superOf(owner));
            for (int sel = -1; sel <= 16; sel++) {
                answers.put("ownMethod(" + owner + ", " + sel + ")", x.ownMethod(owner, sel));
                answers.put("provided(" + owner + ", " + sel + ")", x.provided(owner, sel));
            }
        }
    }

    private void components(TraitFlattener x) {
        for (int comp = -1; comp <= 16; comp++) {
            for (int field = -1; field <= 32; field++) {
                answers.put("componentInfo(" + comp + ", " + field + ")", x.componentInfo(comp, field));
            }
        }
    }

    private void lookups(TraitFlattener x) {
        for (int cls = -1; cls <= 8; cls++) {
            for (int sel = -1; sel <= 16; sel++) {
                for (int kind = -1; kind <= 4; kind++) {
                    answers.put("lookup(" + cls + ", " + sel + ", " + kind + ")", x.lookup(cls, sel, kind));
                }
            }
        }
    }
}
