import java.util.ArrayDeque;
import java.util.ArrayList;
import java.util.Deque;
import java.util.HashMap;
import java.util.HashSet;
import java.util.List;
import java.util.Map;
import java.util.Set;
import java.util.TreeMap;

/** The document once more, written as directly as it reads, with nothing kept that can be worked out. */
final class Model {
    private static final int NONE = -1;
    private static final int CONFLICT = -2;
    private static final int BAD = -3;

    private record Cell(int op, int k) {
    }

    private static final class Component {
        int owner;
        int trait;
        final Set<Integer> excluded = new HashSet<>();
        final Map<Integer, Integer> aliases = new TreeMap<>();
    }

    private static final class Frame {
        int arg;
        int acc;
        int tmp;
        int pc;
        int body;
        int home;
    }

    private final int classes;
    private final int traits;
    private final int selectors;
    private final int depth;
    private final List<List<Cell>> bodies = new ArrayList<>();
    private final Map<Integer, Integer> supers = new TreeMap<>();
    private final Map<List<Integer>, Integer> own = new HashMap<>();
    private final List<Component> components = new ArrayList<>();
    private final Deque<Frame> frames = new ArrayDeque<>();
    private int status = 0;

    Model(int classes, int traits, int selectors, int depth) {
        this.classes = Math.max(1, Math.min(8, classes));
        this.traits = Math.max(1, Math.min(8, traits));
        this.selectors = Math.max(1, Math.min(16, selectors));
        this.depth = Math.max(1, Math.min(16, depth));
    }

    int beginBody() {
        if (bodies.size() == 16) {
            return BAD;
        }
        bodies.add(new ArrayList<>());
        return bodies.size() - 1;
    }

    boolean emit(int op, int k) {
        if (bodies.isEmpty() || !within(op, 0, 9)) {
            return false;
        }
        List<Cell> open = bodies.get(bodies.size() - 1);
        boolean selector = op == 6 || op == 7;
        boolean number = op == 1 || op == 2 || op == 3;
        if (open.size() == 16 || selector && !within(k, 0, selectors) || number && !within(k, -128, 128)) {
            return false;
        }
        return open.add(new Cell(op, selector || number ? k : 0));
    }

    int bodyLength(int body) {
        return within(body, 0, bodies.size()) ? bodies.get(body).size() : BAD;
    }

    int code(int body, int i) {
        if (!within(i, 0, bodyLength(body))) {
            return BAD;
        }
        Cell cell = bodies.get(body).get(i);
        return cell.op() * 256 + (cell.k() & 255);
    }

    boolean setSuper(int cls, int sup) {
        if (!within(cls, 0, classes) || sup != NONE && !within(sup, 0, cls)) {
            return false;
        }
        supers.put(cls, sup);
        return true;
    }

    int superOf(int cls) {
        return within(cls, 0, classes) ? supers.getOrDefault(cls, NONE) : BAD;
    }

    boolean define(int owner, int sel, int body) {
        if (!owner(owner) || !within(sel, 0, selectors) || body != NONE && !within(body, 0, bodies.size())) {
            return false;
        }
        own.put(List.of(owner, sel), body);
        return true;
    }

    int ownMethod(int owner, int sel) {
        return owner(owner) && within(sel, 0, selectors) ? own.getOrDefault(List.of(owner, sel), NONE) : BAD;
    }

    int use(int owner, int trait) {
        if (!owner(owner) || !within(trait, 0, traits) || owner >= 8 && trait >= owner - 8
                || components.size() == 16) {
            return BAD;
        }
        Component made = new Component();
        made.owner = owner;
        made.trait = trait;
        components.add(made);
        return components.size() - 1;
    }

    boolean exclude(int comp, int sel) {
        if (!within(comp, 0, components.size()) || !within(sel, 0, selectors)) {
            return false;
        }
        components.get(comp).excluded.add(sel);
        return true;
    }

    boolean alias(int comp, int newSel, int oldSel) {
        if (!within(comp, 0, components.size()) || !within(newSel, 0, selectors) || !within(oldSel, 0, selectors)) {
            return false;
        }
        components.get(comp).aliases.putIfAbsent(newSel, oldSel);
        return components.get(comp).aliases.get(newSel) == oldSel;
    }

    int componentInfo(int comp, int field) {
        if (!within(comp, 0, components.size())) {
            return BAD;
        }
        Component asked = components.get(comp);
        if (field == 0) {
            return asked.owner;
        }
        if (field == 1) {
            return asked.trait;
        }
        if (field == 2) {
            return asked.excluded.stream().mapToInt(s -> 1 << s).sum();
        }
        return within(field, 16, 16 + selectors) ? asked.aliases.getOrDefault(field - 16, NONE) : BAD;
    }

    int provided(int owner, int sel) {
        if (!owner(owner) || !within(sel, 0, selectors)) {
            return BAD;
        }
        if (ownMethod(owner, sel) != NONE) {
            return ownMethod(owner, sel);
        }
        Set<Integer> contributions = new HashSet<>();
        for (Component component : components) {
            if (component.owner == owner) {
                if (!component.excluded.contains(sel)) {
                    contributions.add(provided(8 + component.trait, sel));
                }
                if (component.aliases.containsKey(sel)) {
                    contributions.add(provided(8 + component.trait, component.aliases.get(sel)));
                }
            }
        }
        contributions.remove(NONE);
        if (contributions.isEmpty()) {
            return NONE;
        }
        return contributions.size() == 1 ? contributions.iterator().next() : CONFLICT;
    }

    int lookup(int cls, int sel, int kind) {
        if (!within(cls, 0, classes) || !within(sel, 0, selectors) || !within(kind, 0, 4)) {
            return BAD;
        }
        int home = home(kind % 2 == 0 ? cls : superOf(cls), sel);
        return home == NONE || kind >= 2 ? home : provided(home, sel);
    }

    int run(int cls, int sel, int arg) {
        if (!within(cls, 0, classes) || !within(sel, 0, selectors)) {
            return 0;
        }
        frames.clear();
        status = send(sel, arg, cls);
        int steps = 0;
        while (status == 0) {
            Frame top = frames.peek();
            boolean atEnd = top.pc == bodies.get(top.body).size();
            Cell cell = atEnd ? new Cell(8, 0) : bodies.get(top.body).get(top.pc);
            if (!atEnd && steps++ == 1000) {
                status = 5;
                break;
            }
            top.pc++;
            switch (cell.op()) {
                case 0 -> top.acc = top.arg;
                case 1 -> top.acc = cell.k();
                case 2 -> top.acc += cell.k();
                case 3 -> top.acc *= cell.k();
                case 4 -> top.tmp = top.acc;
                case 5 -> top.acc += top.tmp;
                case 6 -> status = send(cell.k(), top.acc, cls);
                case 7 -> status = send(cell.k(), top.acc, superOf(top.home));
                default -> {
                    frames.pop();
                    if (frames.isEmpty()) {
                        status = 1;
                        return top.acc;
                    }
                    frames.peek().acc = top.acc;
                }
            }
        }
        return 0;
    }

    int runStatus() {
        return status;
    }

    private int send(int sel, int value, int start) {
        int home = home(start, sel);
        if (home == NONE) {
            return 2;
        }
        if (provided(home, sel) == CONFLICT) {
            return 3;
        }
        if (frames.size() == depth) {
            return 4;
        }
        Frame pushed = new Frame();
        pushed.body = provided(home, sel);
        pushed.home = home;
        pushed.arg = value;
        pushed.acc = value;
        frames.push(pushed);
        return 0;
    }

    private int home(int start, int sel) {
        if (start == NONE || provided(start, sel) != NONE) {
            return start;
        }
        return home(superOf(start), sel);
    }

    private boolean owner(int owner) {
        return within(owner, 0, classes) || within(owner, 8, 8 + traits);
    }

    private static boolean within(int value, int least, int end) {
        return value >= least && value < end;
    }
}
