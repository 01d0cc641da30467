/** Promises 13 and 14: run and runStatus. */
public final class RunTest {
    private static final Check check = new Check();
    private static final int ARG = TraitFlattener.OP_ARG;
    private static final int CONST = TraitFlattener.OP_CONST;
    private static final int ADD = TraitFlattener.OP_ADD;
    private static final int MUL = TraitFlattener.OP_MUL;
    private static final int STORE = TraitFlattener.OP_STORE;
    private static final int ADD_TMP = TraitFlattener.OP_ADD_TMP;
    private static final int SEND = TraitFlattener.OP_SEND;
    private static final int SUPER = TraitFlattener.OP_SUPER;
    private static final int RET = TraitFlattener.OP_RET;
    private static final int OK = TraitFlattener.STATUS_OK;
    private static final int DNU = TraitFlattener.STATUS_DNU;
    private static final int CONFLICT = TraitFlattener.STATUS_CONFLICT;
    private static final int DEPTH = TraitFlattener.STATUS_DEPTH;
    private static final int STEPS = TraitFlattener.STATUS_STEPS;

    public static void main(String[] args) {
        singleBodies();
        arithmeticWraps();
        framesAreApart();
        everyFrameStartsWithATemporaryOfZero();
        aSelfSendStartsAtTheReceiver();
        aSuperSendStartsAboveTheHome();
        aSuperSendInATraitMethod();
        aSuperSendWithoutSuperclass();
        missingMethods();
        conflicts();
        depthComesAfterTheLookup();
        everyRunStartsWithAnEmptyStack();
        depthCountsFramesNotSends();
        stepLimit();
        aReturnCellIsAStep();
        theEndOfABodyIsNoStep();
        theStepLimitComesBeforeTheLookup();
        branchingSendsRunOutOfSteps();
        currentCellsAreRun();
        refusedRuns();
        aRunChangesTheStatusAlone();
        otherCallsLeaveTheStatus();
        check.end();
    }

    private static void runs(TraitFlattener x, String what, int cls, int sel, int arg, int want, int status) {
        String call = what + ": run(" + cls + ", " + sel + ", " + arg + ")";
        check.same(call, x.run(cls, sel, arg), want);
        check.same("runStatus() after " + call, x.runStatus(), status);
    }

    private static void single(String what, int arg, int want, int... cells) {
        TraitFlattener x = new TraitFlattener(1, 1, 1, 1);
        x.define(0, 0, Make.body(x, cells));
        runs(x, what, 0, 0, arg, want, OK);
    }

    private static void singleBodies() {
        single("empty", 7, 7);
        single("empty", -7, -7);
        single("return", 9, 9, RET, 0);
        single("constant", 7, -128, CONST, -128);
        single("constant", 7, 127, CONST, 127);
        single("argument", 7, 7, CONST, 3, ARG, 0);
        single("add", 7, 4, ADD, -3);
        single("multiply", 7, -21, MUL, -3);
        single("the temporary starts at 0", 7, 7, ADD_TMP, 0);
        single("store and add", 7, 15, STORE, 0, ADD, 1, ADD_TMP, 0);
        single("store leaves acc", 7, 7, STORE, 0);
        single("store again", 7, 4, STORE, 0, CONST, 2, STORE, 0, ADD_TMP, 0);
        single("nothing after a return", 7, 8, ADD, 1, RET, 0, ADD, 100);
        single("argument stays", 7, 7, MUL, 5, STORE, 0, ARG, 0);
        single("zero result", 7, 0, MUL, 0);
    }

    private static void arithmeticWraps() {
        single("add", Integer.MAX_VALUE, Integer.MIN_VALUE, ADD, 1);
        single("add", Integer.MIN_VALUE, Integer.MAX_VALUE, ADD, -1);
        single("multiply", Integer.MAX_VALUE, Integer.MAX_VALUE * 127, MUL, 127);
        single("multiply", Integer.MIN_VALUE, Integer.MIN_VALUE, MUL, -1);
        single("double", 0x40000000, Integer.MIN_VALUE, STORE, 0, ADD_TMP, 0);
        single("double", Integer.MIN_VALUE, 0, STORE, 0, ADD_TMP, 0);
        single("powers", 3, 3 * 127 * 127 * 127 * 127 * 127, MUL, 127, MUL, 127, MUL, 127, MUL, 127, MUL, 127);
    }

    // The caller's tmp and arg outlive the send; the callee gets acc as both arg and acc, and a tmp of 0.
    private static void framesAreApart() {
        TraitFlattener x = new TraitFlattener(1, 1, 3, 4);
        x.define(0, 0, Make.body(x, ADD, 1, STORE, 0, MUL, 10, SEND, 1, ADD_TMP, 0));
        x.define(0, 1, Make.body(x, ADD_TMP, 0, STORE, 0, CONST, 5, STORE, 0, ARG, 0, ADD, 3));
        x.define(0, 2, Make.body(x, CONST, 50, SEND, 1, ARG, 0));
        runs(x, "caller and callee", 0, 0, 6, 80, OK);
        runs(x, "the caller's argument", 0, 2, 6, 6, OK);
        runs(x, "the callee alone", 0, 1, 6, 9, OK);
    }

    private static void everyFrameStartsWithATemporaryOfZero() {
        TraitFlattener x = new TraitFlattener(1, 1, 2, 4);
        x.define(0, 0, Make.body(x, SEND, 1, SEND, 1));
        x.define(0, 1, Make.body(x, ADD_TMP, 0, STORE, 0, ADD, 1));
        runs(x, "one callee after the other", 0, 0, 5, 7, OK);
        runs(x, "one run", 0, 1, 5, 6, OK);
        runs(x, "after the other", 0, 1, 5, 6, OK);
    }

    private static void aSelfSendStartsAtTheReceiver() {
        TraitFlattener x = new TraitFlattener(3, 1, 2, 4);
        x.define(0, 0, Make.body(x, SEND, 1));
        x.define(0, 1, Make.body(x, CONST, 1));
        x.define(1, 1, Make.body(x, CONST, 2));
        x.define(2, 1, Make.body(x, CONST, 3));
        x.setSuper(1, 0);
        x.setSuper(2, 1);
        runs(x, "self-send", 0, 0, 9, 1, OK);
        runs(x, "self-send", 1, 0, 9, 2, OK);
        runs(x, "self-send", 2, 0, 9, 3, OK);
        x.define(1, 0, Make.body(x, SUPER, 0, ADD, 10));
        runs(x, "a self-send after a super-send", 2, 0, 9, 13, OK);
    }

    private static void aSuperSendStartsAboveTheHome() {
        TraitFlattener x = new TraitFlattener(4, 1, 1, 4);
        x.define(0, 0, Make.body(x, ADD, 1));
        int climb = Make.body(x, SUPER, 0, MUL, 2);
        x.define(1, 0, climb);
        x.setSuper(1, 0);
        x.setSuper(2, 1);
        x.setSuper(3, 2);
        runs(x, "from the home", 1, 0, 4, 10, OK);
        runs(x, "from two below the home", 3, 0, 4, 10, OK);
        x.define(2, 0, climb);
        runs(x, "one body in two homes", 3, 0, 4, 20, OK);
        x.define(3, 0, climb);
        runs(x, "one body in three homes", 3, 0, 4, 40, OK);
        x.setSuper(3, 0);
        runs(x, "a new superclass", 3, 0, 4, 10, OK);
    }

    private static void aSuperSendInATraitMethod() {
        TraitFlattener x = new TraitFlattener(4, 2, 2, 4);
        x.define(Make.trait(0), 0, Make.body(x, SUPER, 0, ADD, 100));
        x.define(0, 0, Make.body(x, CONST, 1));
        x.define(1, 0, Make.body(x, CONST, 2));
        x.use(Make.trait(1), 0);
        x.use(2, 1);
        x.use(3, 0);
        x.setSuper(2, 0);
        x.setSuper(3, 1);
        runs(x, "used by class 2", 2, 0, 9, 101, OK);
        runs(x, "used by class 3", 3, 0, 9, 102, OK);
        x.setSuper(3, 2);
        runs(x, "used twice along a chain", 3, 0, 9, 201, OK);
        x.alias(1, 1, 0);
        runs(x, "under an alias the cells stay", 2, 1, 9, 101, OK);
    }

    private static void aSuperSendWithoutSuperclass() {
        TraitFlattener x = new TraitFlattener(2, 1, 2, 4);
        x.define(0, 0, Make.body(x, SUPER, 0));
        x.define(0, 1, Make.body(x, CONST, 1));
        x.define(1, 0, Make.body(x, SUPER, 1));
        runs(x, "class 0", 0, 0, 9, 0, DNU);
        runs(x, "class 1 without superclass", 1, 0, 9, 0, DNU);
        x.setSuper(1, 0);
        runs(x, "class 1 with superclass", 1, 0, 9, 1, OK);
    }

    private static void missingMethods() {
        TraitFlattener x = new TraitFlattener(2, 1, 3, 4);
        runs(x, "nothing defined", 0, 0, 9, 0, DNU);
        x.define(0, 0, Make.body(x, CONST, 5, SEND, 1, ADD, 1));
        runs(x, "a send of nothing", 0, 0, 9, 0, DNU);
        x.define(0, 1, Make.body(x, CONST, 4));
        runs(x, "defined since", 0, 0, 9, 5, OK);
        runs(x, "another class", 1, 0, 9, 0, DNU);
        x.define(0, 1, TraitFlattener.NONE);
        runs(x, "removed again", 0, 0, 9, 0, DNU);
    }

    private static void conflicts() {
        TraitFlattener x = new TraitFlattener(2, 2, 2, 4);
        Make.numberedBodies(x, 2);
        x.define(Make.trait(0), 0, 0);
        x.define(Make.trait(1), 0, 1);
        x.use(0, 0);
        x.use(0, 1);
        runs(x, "a conflict", 0, 0, 9, 0, CONFLICT);
        x.define(0, 1, Make.body(x, SEND, 0));
        runs(x, "a send of a conflict", 0, 1, 9, 0, CONFLICT);
        x.setSuper(1, 0);
        x.define(1, 1, Make.body(x, SUPER, 0));
        runs(x, "a super-send of a conflict", 1, 1, 9, 0, CONFLICT);
        x.exclude(0, 0);
        runs(x, "resolved", 1, 1, 9, 1, OK);
    }

    // With the stack full, a missing or conflicting method is told before the depth.
    private static void depthComesAfterTheLookup() {
        int[] want = {DEPTH, CONFLICT, DNU};
        for (int target = 0; target <= 2; target++) {
            TraitFlattener x = new TraitFlattener(1, 2, 5, 2);
            Make.numberedBodies(x, 2);
            x.define(Make.trait(0), 1, 0);
            x.define(Make.trait(1), 1, 1);
            x.use(0, 0);
            x.use(0, 1);
            x.define(0, 0, 1);
            x.define(0, 3, Make.body(x, SEND, 4));
            x.define(0, 4, Make.body(x, SEND, target));
            runs(x, "full stack, sending " + target, 0, 3, 9, 0, want[target]);
        }
    }

    // Frames of an ended run are dropped: the next run has the whole stack, however the last one ended.
    private static void everyRunStartsWithAnEmptyStack() {
        TraitFlattener x = new TraitFlattener(1, 1, 5, 3);
        x.define(0, 0, Make.body(x, SEND, 1));
        x.define(0, 1, Make.body(x, SEND, 2));
        x.define(0, 2, Make.body(x, CONST, 3));
        x.define(0, 3, Make.body(x, SEND, 3));
        x.define(0, 4, Make.body(x, SEND, 0));
        for (int i = 0; i < 3; i++) {
            runs(x, "three frames", 0, 0, 9, 3, OK);
            runs(x, "endless", 0, 3, 9, 0, DEPTH);
            runs(x, "three frames", 0, 0, 9, 3, OK);
            runs(x, "four frames", 0, 4, 9, 0, DEPTH);
        }
    }

    // Returned frames make room: depth counts frames on the stack, not sends.
    private static void depthCountsFramesNotSends() {
        TraitFlattener x = new TraitFlattener(1, 1, 2, 2);
        x.define(0, 0, Make.body(x, SEND, 1, SEND, 1, SEND, 1, SEND, 1));
        x.define(0, 1, Make.body(x, ADD, 1));
        runs(x, "four sends", 0, 0, 9, 13, OK);
    }

    private static void stepLimit() {
        TraitFlattener x = Make.longRun(ADD, 1);
        Make.repeat(x, 9, ADD, 1);
        runs(x, "999 steps", 0, 0, 5, 5 + 928 + 9, OK);
        Make.repeat(x, 1, ADD, 1);
        runs(x, "1000 steps", 0, 0, 5, 5 + 928 + 10, OK);
        runs(x, "1000 steps again", 0, 0, 6, 6 + 928 + 10, OK);
        Make.repeat(x, 1, ADD, 1);
        runs(x, "1001 steps", 0, 0, 5, 0, STEPS);
        runs(x, "a short run after it", 0, 1, 5, 21, OK);
    }

    private static void aReturnCellIsAStep() {
        TraitFlattener x = Make.longRun(ADD, 1);
        Make.repeat(x, 9, ADD, 1);
        x.emit(RET, 0);
        runs(x, "1000 steps with a return", 0, 0, 5, 5 + 928 + 9, OK);
        TraitFlattener y = Make.longRun(ADD, 1);
        Make.repeat(y, 10, ADD, 1);
        y.emit(RET, 0);
        runs(y, "1001 steps with a return", 0, 0, 5, 0, STEPS);
    }

    // Selector 4 has an empty body: its send is a step, its return is none.
    private static void theEndOfABodyIsNoStep() {
        TraitFlattener x = Make.longRun(SEND, 4);
        Make.repeat(x, 10, SEND, 4);
        runs(x, "1000 sends", 0, 0, 5, 5, OK);
        Make.repeat(x, 1, SEND, 4);
        runs(x, "1001 sends", 0, 0, 5, 0, STEPS);
    }

    // Selector 5 is not defined, but a send that is not made any more looks nothing up.
    private static void theStepLimitComesBeforeTheLookup() {
        TraitFlattener x = Make.longRun(ADD, 1, SEND, 5);
        Make.repeat(x, 9, ADD, 1);
        runs(x, "a failing send as step 1000", 0, 0, 5, 0, DNU);
        Make.repeat(x, 1, ADD, 1);
        runs(x, "a failing send as step 1001", 0, 0, 5, 0, STEPS);
    }

    // Each selector sends the next one twice: 2 to the 15th sends at a depth that is allowed.
    private static void branchingSendsRunOutOfSteps() {
        TraitFlattener x = new TraitFlattener(1, 1, 16, 16);
        for (int sel = 0; sel < 16; sel++) {
            x.define(0, sel, sel < 15 ? Make.body(x, SEND, sel + 1, SEND, sel + 1) : Make.body(x));
        }
        runs(x, "branching", 0, 0, 5, 0, STEPS);
        runs(x, "branching less", 0, 8, 5, 5, OK);
    }

    private static void currentCellsAreRun() {
        TraitFlattener x = new TraitFlattener(1, 1, 2, 4);
        x.define(0, 0, x.beginBody());
        runs(x, "still empty", 0, 0, 5, 5, OK);
        x.emit(ADD, 1);
        runs(x, "one cell", 0, 0, 5, 6, OK);
        x.emit(SEND, 1);
        runs(x, "a send of nothing", 0, 0, 5, 0, DNU);
        x.define(0, 1, x.beginBody());
        x.emit(MUL, 3);
        runs(x, "a send of something", 0, 0, 5, 18, OK);
        x.emit(ADD, -4);
        runs(x, "of something longer", 0, 0, 5, 14, OK);
    }

    private static void refusedRuns() {
        TraitFlattener x = new TraitFlattener(3, 2, 4, 4);
        wrongRuns(x);
        check.same("runStatus() after refused runs alone", x.runStatus(), TraitFlattener.STATUS_NOT_RUN);
        x.define(0, 0, Make.body(x, CONST, 6));
        x.run(0, 0, 1);
        wrongRuns(x);
        check.same("runStatus() after a run and refused ones", x.runStatus(), OK);
        x.run(1, 0, 1);
        wrongRuns(x);
        check.same("runStatus() after another and refused ones", x.runStatus(), DNU);
    }

    private static void wrongRuns(TraitFlattener x) {
        for (int wrong : new int[] {-2, -1, 4, 7, 8, 9, 15, 16, 17}) {
            check.refused(x, "run(" + wrong + ", 0, 5)", () -> x.run(wrong, 0, 5), 0);
            check.refused(x, "run(0, " + wrong + ", 5)", () -> x.run(0, wrong, 5), 0);
        }
        check.refused(x, "run(3, 0, 5)", () -> x.run(3, 0, 5), 0);
        for (int far : Make.FAR) {
            check.refused(x, "run(" + far + ", 0, 5)", () -> x.run(far, 0, 5), 0);
            check.refused(x, "run(0, " + far + ", 5)", () -> x.run(0, far, 5), 0);
        }
    }

    private static void aRunChangesTheStatusAlone() {
        TraitFlattener x = Make.busy();
        check.same("runStatus() at the start", x.runStatus(), CONFLICT);
        Snapshot before = Snapshot.of(x);
        runs(x, "a conflict again", 1, 0, 7, 0, CONFLICT);
        check.changed(x, "a run that ends alike", before);
        runs(x, "a method", 0, 0, 7, 3, OK);
        check.changed(x, "a run that ends otherwise", before, "runStatus()");
        runs(x, "a missing one", 0, 3, 7, 0, DNU);
        check.changed(x, "a run that ends otherwise", before, "runStatus()");
        x.define(0, 3, x.beginBody());
        x.emit(SEND, 3);
        before = Snapshot.of(x);
        runs(x, "endless", 0, 3, 7, 0, DEPTH);
        check.changed(x, "a run that ends otherwise", before, "runStatus()");
    }

    private static void otherCallsLeaveTheStatus() {
        TraitFlattener x = Make.busy();
        runs(x, "a missing one", 0, 3, 7, 0, DNU);
        x.beginBody();
        x.emit(ADD, 1);
        x.emit(99, 1);
        x.setSuper(2, 0);
        x.define(0, 3, 0);
        x.use(0, 0);
        x.exclude(0, 0);
        x.alias(0, 3, 0);
        Snapshot.of(x);
        check.same("runStatus()", x.runStatus(), DNU);
        check.same("runStatus() again", x.runStatus(), DNU);
        runs(x, "it is there now", 0, 3, 7, 0, OK);
    }
}
