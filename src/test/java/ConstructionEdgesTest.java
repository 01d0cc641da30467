import java.util.Set;
import java.util.TreeSet;

/** Promise 1: the sentences that name a boundary case, each with a test of its own. */
public final class ConstructionEdgesTest {
    private static final Check check = new Check();
    private static final int NONE = TraitFlattener.NONE;
    private static final int BAD = TraitFlattener.BAD;
    private static final int[] NEAR = Make.range(-3, 20);
    private static final int[][] SIZES = {{1, 1, 1, 1}, {3, 2, 4, 8}, {8, 1, 1, 16}, {1, 8, 16, 1}, {8, 8, 16, 16}};

    public static void main(String[] args) {
        check.holds("A value below the least becomes the least, and a value above the greatest becomes the greatest:",
                ConstructionEdgesTest::beyondTheEndsIsTheEnd);
        check.holds("nC = classes clamped into 1..8", ConstructionEdgesTest::classesAreClamped);
        check.holds("nT = traits clamped into 1..8", ConstructionEdgesTest::traitsAreClamped);
        check.holds("nS = selectors clamped into 1..16", ConstructionEdgesTest::selectorsAreClamped);
        check.holds("maxDepth = depth clamped into 1..16", ConstructionEdgesTest::depthIsClamped);
        check.holds("This holds for every int, including Integer.MIN_VALUE and Integer.MAX_VALUE.",
                ConstructionEdgesTest::everyIntIsClamped);
        check.holds("These four numbers never change afterwards.", ConstructionEdgesTest::theSizesStay);
        check.holds("No bodies have been begun, so there is no open body.", ConstructionEdgesTest::noBodies);
        check.holds("There are no components.", ConstructionEdgesTest::noComponents);
        check.holds("Every class has superclass NONE.", ConstructionEdgesTest::noSuperclasses);
        check.holds("Every own method of every owner is NONE.", ConstructionEdgesTest::noOwnMethods);
        check.holds("runStatus() is STATUS_NOT_RUN.", ConstructionEdgesTest::notRun);
        check.holds("Consequently, in the fresh state every provided value and every lookup answer is NONE.",
                ConstructionEdgesTest::nothingIsFound);
        check.end();
    }

    private static int classesOf(TraitFlattener x) {
        int count = 0;
        for (int cls : Make.range(-40, 40)) {
            count += x.superOf(cls) == BAD ? 0 : 1;
        }
        return count;
    }

    private static int traitsOf(TraitFlattener x) {
        int count = 0;
        for (int owner : Make.range(8, 60)) {
            count += x.ownMethod(owner, 0) == BAD ? 0 : 1;
        }
        return count;
    }

    private static int selectorsOf(TraitFlattener x) {
        int count = 0;
        for (int sel : Make.range(-40, 60)) {
            count += x.ownMethod(0, sel) == BAD ? 0 : 1;
        }
        return count;
    }

    /** The longest chain of frames that comes to its end; every longer one must end with STATUS_DEPTH. */
    private static int depthOf(TraitFlattener x, int firstBody) {
        int deepest = 0;
        for (int frames : Make.range(1, 24)) {
            Make.chain(x, firstBody, frames);
            x.run(7, 0, 5);
            boolean first = frames == deepest + 1;
            if (first && x.runStatus() == TraitFlattener.STATUS_OK) {
                deepest = frames;
            } else {
                check.same("status of " + frames + " frames", x.runStatus(), TraitFlattener.STATUS_DEPTH);
            }
        }
        return deepest;
    }

    private static int depthOf(int depth) {
        TraitFlattener x = new TraitFlattener(8, 1, 3, depth);
        return depthOf(x, Make.chainBodies(x));
    }

    private static int clamped(int value, int greatest) {
        return Math.max(1, Math.min(greatest, value));
    }

    private static void sizes(int classes, int traits, int selectors) {
        TraitFlattener x = new TraitFlattener(classes, traits, selectors, 4);
        String made = "made with " + classes + ", " + traits + ", " + selectors + ": ";
        check.same(made + "classes", classesOf(x), clamped(classes, 8));
        check.same(made + "traits", traitsOf(x), clamped(traits, 8));
        check.same(made + "selectors", selectorsOf(x), clamped(selectors, 16));
    }

    private static void beyondTheEndsIsTheEnd() {
        Snapshot least = Snapshot.of(new TraitFlattener(1, 1, 1, 1));
        Snapshot greatest = Snapshot.of(new TraitFlattener(8, 8, 16, 16));
        check.changed(new TraitFlattener(0, 0, 0, 0), "one below each least", least);
        check.changed(new TraitFlattener(-1, -1, -1, -1), "two below each least", least);
        check.changed(new TraitFlattener(-2000, -2000, -2000, -2000), "far below each least", least);
        check.changed(new TraitFlattener(9, 9, 17, 17), "one above each greatest", greatest);
        check.changed(new TraitFlattener(10, 10, 18, 18), "two above each greatest", greatest);
        check.changed(new TraitFlattener(2000, 2000, 2000, 2000), "far above each greatest", greatest);
        check.same("depth of -2000", depthOf(-2000), 1);
        check.same("depth of -1", depthOf(-1), 1);
        check.same("depth of 0", depthOf(0), 1);
        check.same("depth of 17", depthOf(17), 16);
        check.same("depth of 18", depthOf(18), 16);
        check.same("depth of 2000", depthOf(2000), 16);
    }

    private static void classesAreClamped() {
        for (int value : NEAR) {
            sizes(value, 3, 5);
        }
    }

    private static void traitsAreClamped() {
        for (int value : NEAR) {
            sizes(3, value, 5);
        }
    }

    private static void selectorsAreClamped() {
        for (int value : NEAR) {
            sizes(3, 5, value);
        }
    }

    private static void depthIsClamped() {
        for (int value : NEAR) {
            check.same("depth of " + value, depthOf(value), clamped(value, 16));
        }
    }

    private static void everyIntIsClamped() {
        Set<Integer> values = new TreeSet<>();
        for (int bit = 0; bit < 32; bit++) {
            for (int beside = -1; beside <= 1; beside++) {
                values.add((1 << bit) + beside);
                values.add(-(1 << bit) + beside);
            }
        }
        check.yes("the least and the greatest int are tried",
                values.contains(Integer.MIN_VALUE) && values.contains(Integer.MAX_VALUE));
        for (int value : values) {
            sizes(value, 3, 5);
            sizes(3, value, 5);
            sizes(3, 5, value);
            sizes(value, value, value);
            check.same("depth of " + value, depthOf(value), clamped(value, 16));
        }
        sizes(Integer.MIN_VALUE, Integer.MAX_VALUE, Integer.MIN_VALUE);
        sizes(Integer.MAX_VALUE, Integer.MIN_VALUE, Integer.MAX_VALUE);
    }

    private static void theSizesStay() {
        for (int[] size : SIZES) {
            TraitFlattener x = new TraitFlattener(size[0], size[1], size[2], size[3]);
            useEverything(x);
            String made = "after much use of " + size[0] + ", " + size[1] + ", " + size[2] + ": ";
            check.same(made + "classes", classesOf(x), size[0]);
            check.same(made + "traits", traitsOf(x), size[1]);
            check.same(made + "selectors", selectorsOf(x), size[2]);
        }
        for (int depth : Make.range(1, 16)) {
            TraitFlattener x = new TraitFlattener(8, 8, 16, depth);
            int firstBody = Make.chainBodies(x);
            useEverything(x);
            check.same("depth after much use", depthOf(x, firstBody), depth);
            check.same("depth measured again", depthOf(x, firstBody), depth);
        }
    }

    private static void useEverything(TraitFlattener x) {
        for (int n : Make.range(-2, 18)) {
            x.beginBody();
            x.emit(TraitFlattener.OP_SEND, n);
            x.emit(TraitFlattener.OP_SUPER, n);
            x.use(n, 0);
            x.use(0, n);
            for (int m : Make.range(-2, 18)) {
                x.define(n, m, m);
                x.exclude(n, m);
                x.alias(n, m, n);
                x.setSuper(n, m);
                x.run(n, m, 3);
            }
        }
        for (int owner : Make.range(0, 15)) {
            for (int sel : Make.range(0, 15)) {
                x.define(owner, sel, NONE);
            }
        }
    }

    private static void noBodies() {
        for (int[] size : SIZES) {
            TraitFlattener x = new TraitFlattener(size[0], size[1], size[2], size[3]);
            for (int body : Make.range(-2, 17)) {
                check.same("bodyLength(" + body + ")", x.bodyLength(body), BAD);
                check.same("code(" + body + ", 0)", x.code(body, 0), BAD);
            }
            check.refused(x, "emit with no open body", () -> x.emit(TraitFlattener.OP_RET, 0));
            check.refused(x, "define of a body", () -> x.define(0, 0, 0));
            check.same("the first beginBody()", x.beginBody(), 0);
            check.same("bodyLength(0)", x.bodyLength(0), 0);
        }
    }

    private static void noComponents() {
        for (int[] size : SIZES) {
            TraitFlattener x = new TraitFlattener(size[0], size[1], size[2], size[3]);
            for (int comp : Make.range(-2, 17)) {
                for (int field : Make.range(-1, 33)) {
                    check.same("componentInfo(" + comp + ", " + field + ")", x.componentInfo(comp, field), BAD);
                }
            }
            check.refused(x, "exclude(0, 0)", () -> x.exclude(0, 0));
            check.refused(x, "alias(0, 0, 0)", () -> x.alias(0, 0, 0));
            check.same("the first use(0, 0)", x.use(0, 0), 0);
        }
    }

    private static void noSuperclasses() {
        for (int[] size : SIZES) {
            TraitFlattener x = new TraitFlattener(size[0], size[1], size[2], size[3]);
            for (int cls = 0; cls < size[0]; cls++) {
                check.same("superOf(" + cls + ")", x.superOf(cls), NONE);
            }
        }
    }

    private static void noOwnMethods() {
        for (int[] size : SIZES) {
            TraitFlattener x = new TraitFlattener(size[0], size[1], size[2], size[3]);
            for (int sel = 0; sel < size[2]; sel++) {
                for (int cls = 0; cls < size[0]; cls++) {
                    check.same("ownMethod(" + cls + ", " + sel + ")", x.ownMethod(cls, sel), NONE);
                }
                for (int trait = 0; trait < size[1]; trait++) {
                    int owner = Make.trait(trait);
                    check.same("ownMethod(" + owner + ", " + sel + ")", x.ownMethod(owner, sel), NONE);
                }
            }
        }
    }

    private static void notRun() {
        for (int[] size : SIZES) {
            TraitFlattener x = new TraitFlattener(size[0], size[1], size[2], size[3]);
            check.same("runStatus()", x.runStatus(), TraitFlattener.STATUS_NOT_RUN);
        }
    }

    private static void nothingIsFound() {
        for (int[] size : SIZES) {
            TraitFlattener x = new TraitFlattener(size[0], size[1], size[2], size[3]);
            for (int sel = 0; sel < size[2]; sel++) {
                for (int trait = 0; trait < size[1]; trait++) {
                    int owner = Make.trait(trait);
                    check.same("provided(" + owner + ", " + sel + ")", x.provided(owner, sel), NONE);
                }
                for (int cls = 0; cls < size[0]; cls++) {
                    check.same("provided(" + cls + ", " + sel + ")", x.provided(cls, sel), NONE);
                    for (int kind : Make.range(0, 3)) {
                        String call = "lookup(" + cls + ", " + sel + ", " + kind + ")";
                        check.same(call, x.lookup(cls, sel, kind), NONE);
                    }
                }
            }
        }
    }
}
