/** Promise 13: the sentences that name a boundary case, each with a test of its own. */
public final class RunEdgesTest {
    private static final Check check = new Check();
    private static final int NONE = TraitFlattener.NONE;
    private static final int ARG = TraitFlattener.OP_ARG;
    private static final int CONST = TraitFlattener.OP_CONST;
    private static final int ADD = TraitFlattener.OP_ADD;
    private static final int MUL = TraitFlattener.OP_MUL;
    private static final int STORE = TraitFlattener.OP_STORE;
    private static final int ADD_TMP = TraitFlattener.OP_ADD_TMP;
    private static final int SEND = TraitFlattener.OP_SEND;
    private static final int SUPER = TraitFlattener.OP_SUPER;
    private static final int RET = TraitFlattener.OP_RET;
    private static final int OK = TraitFlattener.STATUS_OK;
    private static final int DNU = TraitFlattener.STATUS_DNU;
    private static final int CONFLICT = TraitFlattener.STATUS_CONFLICT;
    private static final int DEPTH = TraitFlattener.STATUS_DEPTH;
    private static final int STEPS = TraitFlattener.STATUS_STEPS;
    private static final int MIN = Integer.MIN_VALUE;
    private static final int MAX = Integer.MAX_VALUE;

    public static void main(String[] args) {
        check.holds("It is refused if cls is not in 0..nC-1 or sel is not in 0..nS-1.", RunEdgesTest::wrongArguments);
        check.holds("A refused run answers 0, nothing changes, and runStatus() keeps its value.",
                RunEdgesTest::aRefusedRun);
        check.holds("Otherwise steps = 0, there are no frames, and the receiver class R = cls for the whole run.",
                RunEdgesTest::everyRunStartsAnew);
        check.holds("If the answer is NONE, the run ends with STATUS_DNU.", RunEdgesTest::notUnderstood);
        check.holds("If the answer is CONFLICT, the run ends with STATUS_CONFLICT.", RunEdgesTest::conflicts);
        check.holds("Otherwise, if maxDepth frames are already on the stack, the run ends with STATUS_DEPTH.",
                RunEdgesTest::theStackIsFull);
        check.holds("Otherwise a frame is pushed with the found body, its home, arg = v, acc = v, tmp = 0 and pc = 0.",
                RunEdgesTest::aNewFrame);
        sendsAndSteps();
        check.holds("All arithmetic wraps as 32-bit Java int arithmetic.", RunEdgesTest::arithmeticWraps);
        check.holds("If no frame is left, the run ends with STATUS_OK and result w.", RunEdgesTest::theLastReturn);
        check.holds("Otherwise acc of the new top frame becomes w; its pc is already past the send.",
                RunEdgesTest::aReturnToACaller);
        check.holds("At the end all frames are dropped and runStatus() becomes the ending status.",
                RunEdgesTest::framesAreDropped);
        check.holds("run answers the result if the status is STATUS_OK, and 0 otherwise.",
                RunEdgesTest::zeroUnlessOk);
        check.holds("Lookups use the current definitions, including the current cells of every body.",
                RunEdgesTest::currentDefinitions);
        check.holds("A run changes nothing but runStatus().", RunEdgesTest::onlyTheStatusChanges);
        check.end();
    }

    private static void sendsAndSteps() {
        check.holds("If pc equals the length of its body, the frame RETURNS acc.", RunEdgesTest::theEndOfABody);
        check.holds("This is not a step.", RunEdgesTest::theEndOfABodyIsNoStep);
        check.holds("Else if steps = STEP_LIMIT, the run ends with STATUS_STEPS.", RunEdgesTest::outOfSteps);
        check.holds("OP_ARG: acc = arg.", RunEdgesTest::theArgumentStays);
        check.holds("OP_CONST: acc = k.", RunEdgesTest::constants);
        check.holds("OP_ADD: acc = acc + k.", RunEdgesTest::additions);
        check.holds("OP_MUL: acc = acc * k.", RunEdgesTest::products);
        check.holds("OP_STORE: tmp = acc.", RunEdgesTest::theTemporaryStays);
        check.holds("OP_ADD_TMP: acc = acc + tmp.", RunEdgesTest::sumsWithTheTemporary);
        check.holds("OP_SEND k: a SEND of k with value acc starting at R (a self-send).", RunEdgesTest::selfSends);
        check.holds("OP_SUPER k: a SEND of k with value acc starting at superOf(home of this frame) (a super-send).",
                RunEdgesTest::superSends);
        check.holds("When the home has no superclass, this lookup answers NONE.", RunEdgesTest::noSuperclass);
        check.holds("OP_RET: the frame RETURNS acc.", RunEdgesTest::returnCells);
    }

    private static void runs(TraitFlattener x, String what, int cls, int sel, int arg, int want, int status) {
        String call = what + ": run(" + cls + ", " + sel + ", " + arg + ")";
        check.same(call, x.run(cls, sel, arg), want);
        check.same("runStatus() after " + call, x.runStatus(), status);
    }

    private static void single(String what, int arg, int want, int... cells) {
        TraitFlattener x = new TraitFlattener(1, 1, 1, 1);
        x.define(0, 0, Make.body(x, cells));
        runs(x, what, 0, 0, arg, want, OK);
    }

    /** Class 0 has a conflict for selector 0 and an empty body for selector 1; body 2 is that empty body. */
    private static TraitFlattener withConflict(int classes, int selectors, int depth) {
        TraitFlattener x = new TraitFlattener(classes, 2, selectors, depth);
        Make.numberedBodies(x, 2);
        x.define(8, 0, 0);
        x.define(9, 0, 1);
        x.use(0, 0);
        x.use(0, 1);
        x.define(0, 1, x.beginBody());
        return x;
    }

    private static void wrongArguments() {
        for (int classes : Make.range(1, 8)) {
            for (int selectors : new int[] {1, 2, 15, 16}) {
                TraitFlattener x = new TraitFlattener(classes, 8, selectors, 2);
                x.define(0, 0, Make.body(x, CONST, 6));
                for (int cls : Make.outside(classes)) {
                    check.refused(x, classes + " classes: run(" + cls + ", 0, 5)", () -> x.run(cls, 0, 5), 0);
                }
                for (int sel : Make.outside(selectors)) {
                    check.refused(x, selectors + " selectors: run(0, " + sel + ", 5)", () -> x.run(0, sel, 5), 0);
                }
                check.same("runStatus()", x.runStatus(), TraitFlattener.STATUS_NOT_RUN);
                int last = classes - 1;
                x.define(last, selectors - 1, 0);
                runs(x, "the last class and selector", last, selectors - 1, 5, 6, OK);
            }
        }
    }

    private static void aRefusedRun() {
        TraitFlattener x = withConflict(2, 4, 1);
        x.define(0, 2, Make.body(x, SEND, 1));
        int[] statuses = {OK, DNU, CONFLICT, DEPTH};
        int[] selectors = {1, 3, 0, 2};
        for (int i : Make.range(0, 3)) {
            x.run(0, selectors[i], 5);
            check.same("runStatus()", x.runStatus(), statuses[i]);
            check.refused(x, "run(2, 0, 5)", () -> x.run(2, 0, 5), 0);
            check.refused(x, "run(-1, 1, 5)", () -> x.run(-1, 1, 5), 0);
            check.refused(x, "run(0, 4, 5)", () -> x.run(0, 4, 5), 0);
            check.refused(x, "run(0, -1, 5)", () -> x.run(0, -1, 5), 0);
            check.same("runStatus()", x.runStatus(), statuses[i]);
        }
        TraitFlattener spent = Make.longRun(ADD, 1);
        Make.repeat(spent, 11, ADD, 1);
        runs(spent, "out of steps", 0, 0, 5, 0, STEPS);
        check.refused(spent, "run(1, 0, 5)", () -> spent.run(1, 0, 5), 0);
        check.same("runStatus()", spent.runStatus(), STEPS);
    }

    private static void everyRunStartsAnew() {
        TraitFlattener x = Make.longRun(ADD, 1);
        Make.repeat(x, 10, ADD, 1);
        for (int i = 0; i < 5; i++) {
            runs(x, "1000 steps each time", 0, 0, i, i + 938, OK);
        }
        TraitFlattener y = new TraitFlattener(8, 1, 4, 3);
        Make.chain(y, Make.chainBodies(y), 3);
        for (int i = 0; i < 5; i++) {
            runs(y, "the whole stack each time", 7, 0, i, i, OK);
        }
        TraitFlattener z = new TraitFlattener(8, 1, 2, 3);
        z.define(0, 0, Make.body(z, SEND, 1));
        for (int cls : Make.range(0, 7)) {
            z.setSuper(cls, cls == 0 ? NONE : 0);
            z.define(cls, 1, Make.body(z, CONST, 10 + cls));
        }
        for (int cls : Make.range(0, 7)) {
            runs(z, "its own receiver each time", cls, 0, 0, 10 + cls, OK);
        }
    }

    private static void notUnderstood() {
        TraitFlattener x = withConflict(3, 4, 2);
        runs(x, "as the first send", 0, 3, 5, 0, DNU);
        runs(x, "of a class without methods", 2, 1, 5, 0, DNU);
        x.define(0, 2, Make.body(x, ADD, 1, SEND, 3));
        runs(x, "as a later send", 0, 2, 5, 0, DNU);
        x.setSuper(1, 0);
        x.define(1, 2, Make.body(x, SUPER, 2));
        runs(x, "with the stack full", 1, 2, 5, 0, DNU);
    }

    private static void conflicts() {
        TraitFlattener x = withConflict(3, 4, 2);
        runs(x, "as the first send", 0, 0, 5, 0, CONFLICT);
        x.define(0, 2, Make.body(x, ADD, 1, SEND, 0));
        runs(x, "as a later send", 0, 2, 5, 0, CONFLICT);
        x.setSuper(1, 0);
        x.define(1, 2, Make.body(x, SUPER, 2));
        runs(x, "with the stack full", 1, 2, 5, 0, CONFLICT);
        x.setSuper(2, 1);
        runs(x, "in a superclass", 2, 0, 5, 0, CONFLICT);
        x.define(1, 3, Make.body(x, SUPER, 0));
        runs(x, "by a super-send", 2, 3, 5, 0, CONFLICT);
    }

    private static void theStackIsFull() {
        for (int depth : Make.range(1, 16)) {
            TraitFlattener x = new TraitFlattener(8, 1, 4, depth);
            int firstBody = Make.chainBodies(x);
            for (int frames : Make.range(1, 24)) {
                Make.chain(x, firstBody, frames);
                boolean fits = frames <= depth;
                runs(x, frames + " frames where " + depth + " fit", 7, 0, 5, fits ? 5 : 0, fits ? OK : DEPTH);
            }
            x.define(7, 3, Make.body(x, SEND, 3));
            runs(x, "without end where " + depth + " fit", 7, 3, 5, 0, DEPTH);
        }
        TraitFlattener x = new TraitFlattener(1, 1, 3, 2);
        x.define(0, 1, x.beginBody());
        x.define(0, 0, x.beginBody());
        Make.repeat(x, 16, SEND, 1);
        runs(x, "returned frames make room", 0, 0, 5, 5, OK);
    }

    // The former frame at the same place left its registers behind; none of them may show.
    private static void aNewFrame() {
        TraitFlattener x = new TraitFlattener(2, 1, 6, 4);
        x.define(0, 0, Make.body(x, ADD, 1, SEND, 1, SEND, 2));
        x.define(0, 1, Make.body(x, STORE, 0, ADD, 100, STORE, 0));
        x.define(0, 2, Make.body(x, ADD_TMP, 0));
        runs(x, "tmp = 0 and pc = 0", 0, 0, 5, 106, OK);
        x.define(0, 3, Make.body(x, ADD, 1, SEND, 4));
        x.define(0, 4, Make.body(x, STORE, 0, ARG, 0, ADD_TMP, 0));
        runs(x, "arg = v and acc = v", 0, 3, 5, 12, OK);
        runs(x, "the values of the first send", 0, 4, MAX, -2, OK);
        x.setSuper(1, 0);
        x.define(1, 1, Make.body(x, SUPER, 1, ADD, 1));
        runs(x, "its home", 1, 1, 5, 106, OK);
    }

    private static void theEndOfABody() {
        for (int cells : new int[] {0, 1, 15, 16}) {
            TraitFlattener x = new TraitFlattener(1, 1, 2, 2);
            x.beginBody();
            Make.repeat(x, cells, ADD, 1);
            x.define(0, 0, 0);
            x.define(0, 1, Make.body(x, SEND, 0, MUL, 2));
            runs(x, cells + " cells", 0, 0, 5, 5 + cells, OK);
            runs(x, cells + " cells, sent", 0, 1, 5, 2 * (5 + cells), OK);
        }
    }

    // All 1000 steps are sends of an empty body, and a thousand frames and more end without a step.
    private static void theEndOfABodyIsNoStep() {
        TraitFlattener x = Make.longRun(SEND, 4);
        Make.repeat(x, 9, SEND, 4);
        runs(x, "999 sends", 0, 0, 5, 5, OK);
        x.emit(SEND, 4);
        runs(x, "1000 sends", 0, 0, 5, 5, OK);
    }

    private static void outOfSteps() {
        int[] cells = {ARG, CONST, ADD, MUL, STORE, ADD_TMP, SEND, SUPER, RET};
        for (int op : cells) {
            TraitFlattener x = Make.longRun(ADD, 1, op, op == SEND || op == SUPER ? 5 : 0);
            Make.repeat(x, 9, ADD, 1);
            x.run(0, 0, 5);
            check.same("runStatus() with cell " + op + " as step 1000", x.runStatus(),
                    op == SEND || op == SUPER ? DNU : OK);
            x.emit(ADD, 1);
            runs(x, "cell " + op + " as step 1001", 0, 0, 5, 0, STEPS);
        }
        TraitFlattener x = new TraitFlattener(1, 1, 16, 16);
        for (int sel : Make.range(0, 15)) {
            x.define(0, sel, x.beginBody());
            Make.repeat(x, 16, sel < 15 ? SEND : ADD, sel < 15 ? sel + 1 : 1);
        }
        runs(x, "16 to the 15th sends", 0, 0, 5, 0, STEPS);
        runs(x, "16 sends of 16 cells, 16 times", 0, 13, 5, 0, STEPS);
        runs(x, "16 sends of 16 cells", 0, 14, 5, 5 + 256, OK);
    }

    private static void theArgumentStays() {
        for (int arg : new int[] {MIN, -1, 0, 1, MAX}) {
            single("ARG alone", arg, arg, ARG, 0);
            single("ARG after CONST", arg, arg, CONST, 3, ARG, 0);
            single("ARG after all", arg, arg, ADD, 1, MUL, 2, STORE, 0, ADD_TMP, 0, CONST, 3, ARG, 0, ARG, 0);
        }
    }

    private static void theTemporaryStays() {
        single("STORE leaves acc", 7, 7, STORE, 0);
        single("STORE again", 7, 4, STORE, 0, CONST, 2, STORE, 0, ADD_TMP, 0);
        single("tmp after all", 7, 10, STORE, 0, ADD, 1, MUL, 2, ADD_TMP, 0, ARG, 0, CONST, 3, ADD_TMP, 0);
    }

    private static void sumsWithTheTemporary() {
        single("tmp of 0", 7, 7, ADD_TMP, 0);
        single("tmp of acc", 7, 14, STORE, 0, ADD_TMP, 0);
        single("tmp thrice", 7, 28, STORE, 0, ADD_TMP, 0, ADD_TMP, 0, ADD_TMP, 0);
    }

    private static void constants() {
        for (int k : new int[] {-128, -1, 0, 1, 127}) {
            single("CONST", MAX, k, CONST, k);
        }
    }

    private static void additions() {
        for (int k : new int[] {-128, -1, 0, 1, 127}) {
            single("ADD", 1000, 1000 + k, ADD, k);
        }
    }

    private static void products() {
        for (int k : new int[] {-128, -1, 0, 1, 127}) {
            single("MUL", 1000, 1000 * k, MUL, k);
        }
    }

    private static void selfSends() {
        TraitFlattener x = new TraitFlattener(8, 1, 2, 2);
        for (int cls : Make.range(1, 7)) {
            x.setSuper(cls, cls - 1);
        }
        x.define(0, 0, Make.body(x, ADD, 1, SEND, 1));
        x.define(0, 1, Make.body(x, MUL, 2));
        x.define(7, 1, Make.body(x, MUL, 3));
        runs(x, "found above the receiver", 6, 0, 5, 12, OK);
        runs(x, "found in the receiver", 7, 0, 5, 18, OK);
    }

    private static void superSends() {
        TraitFlattener x = new TraitFlattener(8, 1, 2, 16);
        for (int cls : Make.range(1, 7)) {
            x.setSuper(cls, cls - 1);
        }
        x.define(0, 0, Make.body(x, CONST, 1));
        int climb = Make.body(x, SUPER, 0, ADD, 1);
        x.define(8, 0, climb);
        for (int cls : Make.range(1, 7)) {
            x.use(cls, 0);
            runs(x, "a trait method at home in " + cls + " classes", 7, 0, 5, 1 + cls, OK);
        }
        x.setSuper(7, 0);
        runs(x, "straight to the root", 7, 0, 5, 2, OK);
    }

    private static void noSuperclass() {
        for (int cls : Make.range(0, 7)) {
            TraitFlattener x = new TraitFlattener(8, 1, 2, 1);
            x.define(cls, 0, Make.body(x, SUPER, 0));
            x.define(cls, 1, Make.body(x, SUPER, 0));
            runs(x, "no superclass", cls, 0, 5, 0, DNU);
            runs(x, "no superclass", cls, 1, 5, 0, DNU);
        }
        TraitFlattener x = new TraitFlattener(8, 1, 2, 4);
        x.define(0, 0, Make.body(x, SUPER, 0));
        x.setSuper(7, 0);
        runs(x, "the receiver has a superclass, the home has none", 7, 0, 5, 0, DNU);
    }

    private static void returnCells() {
        single("a return as the only cell", MIN, MIN, RET, 0);
        single("a return as the first cell", 7, 7, RET, 0, CONST, 1);
        single("a return before the end", 7, 8, ADD, 1, RET, 0, ADD, 100, RET, 0);
        TraitFlattener x = new TraitFlattener(1, 1, 2, 2);
        x.beginBody();
        Make.repeat(x, 15, ADD, 1);
        x.emit(RET, 0);
        x.define(0, 0, 0);
        x.define(0, 1, Make.body(x, SEND, 0, ADD, 1));
        runs(x, "a return as the 16th cell", 0, 0, 5, 20, OK);
        runs(x, "a return to a caller", 0, 1, 5, 21, OK);
    }

    private static void arithmeticWraps() {
        single("MAX + 1", MAX, MIN, ADD, 1);
        single("MAX + 127", MAX, MIN + 126, ADD, 127);
        single("MIN - 1", MIN, MAX, ADD, -1);
        single("MIN - 128", MIN, MAX - 127, ADD, -128);
        single("MAX * 127", MAX, MAX - 126, MUL, 127);
        single("MAX * -128", MAX, 128, MUL, -128);
        single("MIN * -1", MIN, MIN, MUL, -1);
        single("MIN * 127", MIN, MIN, MUL, 127);
        single("MIN * -128", MIN, 0, MUL, -128);
        single("65536 * 64 * 64 * 16", 65536, 0, MUL, 64, MUL, 64, MUL, 16);
        single("MAX + MAX", MAX, -2, STORE, 0, ADD_TMP, 0);
        single("MIN + MIN", MIN, 0, STORE, 0, ADD_TMP, 0);
        single("2 to the 31st", 1 << 30, MIN, STORE, 0, ADD_TMP, 0);
    }

    private static void theLastReturn() {
        for (int value : new int[] {MIN, -3, -2, -1, 0, 1, MAX}) {
            single("an empty body", value, value);
            single("a return cell", value, value, RET, 0);
        }
    }

    // The send is the last of 16 cells, so that pc stands at the end when the caller goes on.
    private static void aReturnToACaller() {
        TraitFlattener x = new TraitFlattener(1, 1, 4, 4);
        x.define(0, 1, Make.body(x, MUL, 3));
        x.define(0, 0, x.beginBody());
        Make.repeat(x, 15, ADD, 1);
        x.emit(SEND, 1);
        runs(x, "a send as the 16th cell", 0, 0, 5, 60, OK);
        x.define(0, 2, Make.body(x, STORE, 0, SEND, 0, ADD_TMP, 0));
        runs(x, "acc is replaced, tmp stays", 0, 2, 5, 65, OK);
        x.define(0, 3, Make.body(x, SEND, 1, ARG, 0, SEND, 1));
        runs(x, "arg stays", 0, 3, 5, 15, OK);
    }

    // Each run but the first leaves frames behind; the next one must have the whole stack.
    private static void framesAreDropped() {
        int[] statuses = {OK, CONFLICT, DNU, DEPTH, STEPS};
        for (int i : Make.range(0, 4)) {
            TraitFlattener x = withConflict(8, 8, 4);
            int[] bodies = {Make.body(x), Make.body(x, SEND, 0), Make.body(x, SEND, 7), Make.body(x, SEND, 3),
                x.beginBody()};
            Make.repeat(x, 16, SEND, 4);
            x.define(0, 4, x.beginBody());
            Make.repeat(x, 16, SEND, 5);
            x.define(0, 5, x.beginBody());
            Make.repeat(x, 16, ADD, 0);
            x.define(0, 3, bodies[i]);
            int firstBody = Make.chainBodies(x);
            runs(x, "a run to its end", 0, 3, 5, i == 0 ? 5 : 0, statuses[i]);
            Make.chain(x, firstBody, 4);
            runs(x, "the whole stack after it", 7, 0, 5, 5, OK);
            Make.chain(x, firstBody, 5);
            runs(x, "and no more", 7, 0, 5, 0, DEPTH);
        }
    }

    // The result before was not 0, nor is acc when the run fails.
    private static void zeroUnlessOk() {
        TraitFlattener x = withConflict(1, 6, 2);
        x.define(0, 2, Make.body(x, CONST, 77, SEND, 0));
        x.define(0, 3, Make.body(x, CONST, 77, SEND, 5));
        x.define(0, 4, Make.body(x, CONST, 77, SEND, 4));
        int[] statuses = {CONFLICT, DNU, DEPTH};
        for (int i : Make.range(0, 2)) {
            runs(x, "a result", 0, 1, 66, 66, OK);
            runs(x, "no result", 0, 2 + i, 5, 0, statuses[i]);
        }
        TraitFlattener y = Make.longRun(ADD, 1);
        runs(y, "a result", 0, 0, 5, 5 + 928, OK);
        Make.repeat(y, 11, ADD, 1);
        runs(y, "no result", 0, 0, 5, 0, STEPS);
        runs(x, "a result of 0", 0, 1, 0, 0, OK);
    }

    private static void currentDefinitions() {
        TraitFlattener x = new TraitFlattener(3, 2, 3, 4);
        Make.numberedBodies(x, 3);
        x.define(0, 1, Make.body(x, SEND, 0));
        x.setSuper(1, 0);
        runs(x, "nothing yet", 1, 1, 5, 0, DNU);
        x.define(8, 0, 1);
        x.define(9, 0, 2);
        int comp = x.use(1, 0);
        runs(x, "after use", 1, 1, 5, 1, OK);
        x.use(1, 1);
        runs(x, "after a second use", 1, 1, 5, 0, CONFLICT);
        x.exclude(comp, 0);
        runs(x, "after exclude", 1, 1, 5, 2, OK);
        x.alias(comp, 2, 0);
        runs(x, "after alias", 1, 2, 5, 1, OK);
        x.define(1, 0, 0);
        runs(x, "after define", 1, 1, 5, 0, OK);
        x.setSuper(1, NONE);
        runs(x, "after setSuper", 1, 1, 5, 0, DNU);
        x.define(1, 0, 3);
        x.define(1, 1, x.beginBody());
        runs(x, "an empty body", 1, 1, 5, 5, OK);
        x.emit(ADD, 7);
        runs(x, "after emit", 1, 1, 5, 12, OK);
    }

    private static void onlyTheStatusChanges() {
        TraitFlattener x = Make.busy();
        x.define(2, 3, x.beginBody());
        x.emit(SEND, 3);
        int[][] calls = {{0, 0, OK}, {0, 3, DNU}, {1, 0, CONFLICT}, {2, 3, DEPTH}};
        for (int[] call : calls) {
            x.run(0, 0, 1);
            Snapshot before = Snapshot.of(x);
            x.run(call[0], call[1], 7);
            if (call[2] == OK) {
                check.changed(x, "a run that ends alike", before);
            } else {
                check.changed(x, "a run that ends with " + call[2], before, "runStatus()");
            }
            check.same("runStatus()", x.runStatus(), call[2]);
        }
        check.yes("the open body stays open", x.emit(RET, 0));
        check.same("bodyLength(4)", x.bodyLength(4), 2);
        TraitFlattener spent = Make.longRun(ADD, 1);
        Make.repeat(spent, 11, ADD, 1);
        Snapshot before = Snapshot.of(spent);
        spent.run(0, 0, 7);
        check.changed(spent, "a run out of steps", before, "runStatus()");
    }
}
