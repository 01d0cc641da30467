import java.util.ArrayList;
import java.util.List;
import java.util.function.ToIntFunction;

/** "Words used below": the sentences that name a boundary case, each with a test of its own. */
public final class WordsEdgesTest {
    private static final Check check = new Check();
    private static final int NONE = TraitFlattener.NONE;
    private static final int BAD = TraitFlattener.BAD;

    public static void main(String[] args) {
        check.holds("Classes are 0..nC-1, traits are 0..nT-1 and selectors are 0..nS-1.", () -> {
            classesEndBeforeTheirCount();
            traitsEndBeforeTheirCount();
            selectorsEndBeforeTheirCount();
        });
        check.holds("An owner id is valid iff it names an existing class or trait, so the valid ids are 0..nC-1 and"
                + " TRAIT_BASE..TRAIT_BASE+nT-1.", WordsEdgesTest::ownersAreClassesAndTraits);
        check.holds("a body number is valid iff that body has been begun, that is 0 .. (bodies begun - 1).",
                WordsEdgesTest::bodiesAreThoseBegun);
        check.holds("Components are numbered 0, 1, 2, ... in the order made and are never removed.",
                WordsEdgesTest::componentsAreThoseMade);
        check.holds("A **refused** call changes nothing.", WordsEdgesTest::refusedCallsChangeNothing);
        check.holds("Getters never change anything.", WordsEdgesTest::gettersChangeNothing);
        check.end();
    }

    private static void classesEndBeforeTheirCount() {
        for (int count : Make.range(1, 8)) {
            TraitFlattener x = new TraitFlattener(count, 1, 1, 1);
            for (int cls = 0; cls < count; cls++) {
                check.yes(count + " classes: setSuper(" + cls + ", NONE)", x.setSuper(cls, NONE));
                check.same(count + " classes: superOf(" + cls + ")", x.superOf(cls), NONE);
                check.same(count + " classes: lookup(" + cls + ", 0, 0)", x.lookup(cls, 0, 0), NONE);
                x.run(cls, 0, 0);
                check.same(count + " classes: run(" + cls + ", 0, 0)", x.runStatus(), TraitFlattener.STATUS_DNU);
            }
            for (int cls : Make.outside(count)) {
                TraitFlattener y = new TraitFlattener(count, 1, 1, 1);
                check.refused(y, count + " classes: setSuper(" + cls + ", NONE)", () -> y.setSuper(cls, NONE));
                check.refused(y, count + " classes: superOf(" + cls + ")", () -> y.superOf(cls), BAD);
                check.refused(y, count + " classes: lookup(" + cls + ", 0, 0)", () -> y.lookup(cls, 0, 0), BAD);
                check.refused(y, count + " classes: run(" + cls + ", 0, 0)", () -> y.run(cls, 0, 0), 0);
            }
        }
    }

    private static void traitsEndBeforeTheirCount() {
        for (int count : Make.range(1, 8)) {
            TraitFlattener x = new TraitFlattener(1, count, 1, 1);
            for (int trait = 0; trait < count; trait++) {
                check.same(count + " traits: use(0, " + trait + ")", x.use(0, trait), trait);
            }
            for (int trait : Make.outside(count)) {
                check.refused(x, count + " traits: use(0, " + trait + ")", () -> x.use(0, trait), BAD);
            }
        }
    }

    private static void selectorsEndBeforeTheirCount() {
        for (int count : Make.range(1, 16)) {
            TraitFlattener x = new TraitFlattener(1, 1, count, 1);
            x.beginBody();
            x.use(0, 0);
            for (int sel = 0; sel < count; sel++) {
                check.yes(count + " selectors: define(0, " + sel + ", 0)", x.define(0, sel, 0));
                check.yes(count + " selectors: exclude(0, " + sel + ")", x.exclude(0, sel));
                check.yes(count + " selectors: alias(0, " + sel + ", " + sel + ")", x.alias(0, sel, sel));
                check.same(count + " selectors: provided(0, " + sel + ")", x.provided(0, sel), 0);
                check.same(count + " selectors: lookup(0, " + sel + ", 0)", x.lookup(0, sel, 0), 0);
                check.same(count + " selectors: run(0, " + sel + ", 5)", x.run(0, sel, 5), 5);
            }
            for (int sel : Make.outside(count)) {
                check.refused(x, count + " selectors: define(0, " + sel + ", 0)", () -> x.define(0, sel, 0));
                check.refused(x, count + " selectors: exclude(0, " + sel + ")", () -> x.exclude(0, sel));
                check.refused(x, count + " selectors: alias(0, " + sel + ", 0)", () -> x.alias(0, sel, 0));
                check.refused(x, count + " selectors: alias(0, 0, " + sel + ")", () -> x.alias(0, 0, sel));
                check.refused(x, count + " selectors: provided(0, " + sel + ")", () -> x.provided(0, sel), BAD);
                check.refused(x, count + " selectors: lookup(0, " + sel + ", 0)", () -> x.lookup(0, sel, 0), BAD);
                check.refused(x, count + " selectors: run(0, " + sel + ", 5)", () -> x.run(0, sel, 5), 0);
            }
        }
    }

    private static void ownersAreClassesAndTraits() {
        for (int classes : Make.range(1, 8)) {
            for (int traits : Make.range(1, 8)) {
                TraitFlattener x = new TraitFlattener(classes, traits, 1, 1);
                x.beginBody();
                String sizes = classes + " classes, " + traits + " traits: ";
                for (int owner : Make.range(-3, 20)) {
                    boolean valid = owner >= 0 && owner < classes || owner >= 8 && owner < 8 + traits;
                    String call = sizes + "define(" + owner + ", 0, 0)";
                    if (valid) {
                        check.same(sizes + "ownMethod(" + owner + ", 0)", x.ownMethod(owner, 0), NONE);
                        check.same(sizes + "provided(" + owner + ", 0)", x.provided(owner, 0), NONE);
                        check.yes(call, x.define(owner, 0, 0));
                    } else {
                        check.same(sizes + "ownMethod(" + owner + ", 0)", x.ownMethod(owner, 0), BAD);
                        check.same(sizes + "provided(" + owner + ", 0)", x.provided(owner, 0), BAD);
                        check.refused(x, call, () -> x.define(owner, 0, 0));
                    }
                    int used = valid && owner != 8 ? 0 : BAD;
                    TraitFlattener y = new TraitFlattener(classes, traits, 1, 1);
                    check.same(sizes + "use(" + owner + ", 0)", y.use(owner, 0), used);
                }
            }
        }
    }

    private static void bodiesAreThoseBegun() {
        TraitFlattener x = new TraitFlattener(1, 1, 1, 1);
        for (int begun : Make.range(0, 16)) {
            for (int body = 0; body < begun; body++) {
                check.same(begun + " begun: bodyLength(" + body + ")", x.bodyLength(body), 0);
                check.yes(begun + " begun: define(0, 0, " + body + ")", x.define(0, 0, body));
            }
            x.define(0, 0, NONE);
            for (int body : Make.outside(begun)) {
                check.same(begun + " begun: bodyLength(" + body + ")", x.bodyLength(body), BAD);
                if (body != NONE) {
                    check.refused(x, begun + " begun: define(0, 0, " + body + ")", () -> x.define(0, 0, body));
                }
            }
            x.beginBody();
        }
    }

    private static void componentsAreThoseMade() {
        TraitFlattener x = new TraitFlattener(3, 5, 1, 1);
        for (int made : Make.range(0, 16)) {
            for (int comp = 0; comp < made; comp++) {
                check.same(made + " made: owner of " + comp, x.componentInfo(comp, 0), comp % 3);
                check.same(made + " made: trait of " + comp, x.componentInfo(comp, 1), comp % 5);
            }
            for (int comp : Make.outside(made)) {
                check.same(made + " made: owner of " + comp, x.componentInfo(comp, 0), BAD);
                check.refused(x, made + " made: exclude(" + comp + ", 0)", () -> x.exclude(comp, 0));
                check.refused(x, made + " made: alias(" + comp + ", 0, 0)", () -> x.alias(comp, 0, 0));
            }
            check.same(made + " made: use", x.use(made % 3, made % 5), made < 16 ? made : BAD);
        }
    }

    /** A life that meets every limit: each step is a call that is not refused. */
    private static List<ToIntFunction<TraitFlattener>> life() {
        List<ToIntFunction<TraitFlattener>> steps = new ArrayList<>();
        for (int n : Make.range(0, 15)) {
            steps.add(TraitFlattener::beginBody);
            steps.add(x -> x.emit(TraitFlattener.OP_ADD, n) ? 1 : 0);
            steps.add(x -> x.emit(n % 2 == 0 ? TraitFlattener.OP_SEND : TraitFlattener.OP_SUPER, n % 4) ? 1 : 0);
            steps.add(x -> x.define(n % 2 == 0 ? n % 3 : 8 + n % 3, n % 4, n) ? 1 : 0);
            steps.add(x -> x.use(n % 4 == 3 ? 10 : n % 3, n % 2));
            steps.add(x -> x.exclude(n, n % 3) ? 1 : 0);
            steps.add(x -> x.alias(n, n % 4, (n + 1) % 4) ? 1 : 0);
            steps.add(x -> x.setSuper(n % 3, n % 3 - 1) ? 1 : 0);
            steps.add(x -> x.run(n % 3, n % 4, n));
            steps.add(x -> x.run(2, (n + 1) % 4, -n));
        }
        for (int i = 2; i < 16; i++) {
            steps.add(x -> x.emit(TraitFlattener.OP_MUL, 3) ? 1 : 0);
        }
        for (int sel : Make.range(0, 3)) {
            steps.add(x -> x.run(2, sel, 77));
            steps.add(x -> x.define(2, sel, 15) ? 1 : 0);
            steps.add(x -> x.run(2, sel, 77));
        }
        return steps;
    }

    /** Calls that are refused wherever the life stands, and at a limit also those that the limit refuses. */
    private static void refuse(TraitFlattener x) {
        boolean refused = !x.emit(-1, 0) && !x.emit(9, 0) && !x.emit(TraitFlattener.OP_CONST, 128)
                && !x.emit(TraitFlattener.OP_MUL, -129) && !x.emit(TraitFlattener.OP_SEND, 4)
                && !x.emit(TraitFlattener.OP_SUPER, -1)
                && !x.setSuper(0, 0) && !x.setSuper(3, NONE) && !x.setSuper(1, 2) && !x.setSuper(2, BAD)
                && !x.define(3, 0, NONE) && !x.define(11, 0, NONE) && !x.define(0, 4, NONE) && !x.define(0, 0, 16)
                && !x.define(0, 0, TraitFlattener.CONFLICT)
                && x.use(3, 0) == BAD && x.use(0, 3) == BAD && x.use(8, 0) == BAD && x.use(9, 1) == BAD
                && !x.exclude(16, 0) && !x.exclude(-1, 0) && !x.exclude(0, 4) && !x.exclude(0, -1)
                && !x.alias(16, 0, 0) && !x.alias(-1, 0, 0) && !x.alias(0, 4, 0) && !x.alias(0, 0, -1)
                && x.run(3, 0, 9) == 0 && x.run(0, 4, 9) == 0 && x.run(-1, -1, 9) == 0;
        if (x.bodyLength(0) == BAD) {
            refused &= !x.emit(TraitFlattener.OP_RET, 0) && !x.define(0, 0, 0);
        }
        if (x.bodyLength(15) != BAD) {
            refused &= x.beginBody() == BAD;
        }
        if (x.bodyLength(15) == 16) {
            refused &= !x.emit(TraitFlattener.OP_RET, 0);
        }
        if (x.componentInfo(15, 0) != BAD) {
            refused &= x.use(0, 0) == BAD;
        }
        if (x.componentInfo(0, TraitFlattener.FIELD_ALIAS) != BAD) {
            int other = (x.componentInfo(0, TraitFlattener.FIELD_ALIAS) + 1) % 4;
            refused &= x.componentInfo(0, TraitFlattener.FIELD_ALIAS) == NONE || !x.alias(0, 0, other);
        }
        check.yes("the wrong calls are refused", refused);
    }

    private static void refusedCallsChangeNothing() {
        TraitFlattener plain = new TraitFlattener(3, 3, 4, 3);
        TraitFlattener pestered = new TraitFlattener(3, 3, 4, 3);
        int number = 0;
        for (ToIntFunction<TraitFlattener> step : life()) {
            refuse(pestered);
            sameAnswer(plain, pestered, "with refused calls between, step " + number++, step);
        }
        refuse(pestered);
        check.changed(pestered, "refused calls at the end", Snapshot.of(plain));
        check.same("the life fills the last body", plain.bodyLength(15), 16);
        check.same("the life makes the last component", plain.componentInfo(15, TraitFlattener.FIELD_TRAIT), 1);
    }

    private static void gettersChangeNothing() {
        TraitFlattener plain = new TraitFlattener(3, 3, 4, 3);
        TraitFlattener read = new TraitFlattener(3, 3, 4, 3);
        int number = 0;
        for (ToIntFunction<TraitFlattener> step : life()) {
            Snapshot.of(read);
            farReads(read);
            int due = step.applyAsInt(plain);
            check.same("with getters between, step " + number++, step.applyAsInt(read), due);
        }
        Snapshot once = Snapshot.of(read);
        check.changed(read, "reading twice", once);
        check.changed(plain, "reading only at the end", once);
    }

    private static void farReads(TraitFlattener x) {
        for (int far : Make.outside(16)) {
            x.bodyLength(far);
            x.code(far, 0);
            x.code(0, far);
            x.superOf(far);
            x.ownMethod(far, 0);
            x.ownMethod(0, far);
            x.componentInfo(far, 0);
            x.provided(far, 0);
            x.provided(0, far);
            x.lookup(far, 0, 0);
            x.lookup(0, far, 0);
            x.lookup(0, 0, far);
        }
    }

    private static void sameAnswer(TraitFlattener x, TraitFlattener y, String what,
            ToIntFunction<TraitFlattener> step) {
        check.same(what, step.applyAsInt(y), step.applyAsInt(x));
        check.changed(y, what, Snapshot.of(x));
    }
}
