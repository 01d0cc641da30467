/** Promises 2, 3 and 4: beginBody, emit, bodyLength and code. */
public final class BodiesTest {
    private static final Check check = new Check();

    public static void main(String[] args) {
        bodiesAreNumberedUpToTheLimit();
        beginningChangesOneBodyAlone();
        aClosedBodyStaysAsItIs();
        emitNeedsABody();
        emitKnowsNineOpcodes();
        emitStopsAtSixteenCells();
        emitWantsAFittingSelector();
        emitWantsAFittingNumber();
        emitDropsTheOperandWhereThereIsNone();
        emitChangesTheOpenBodyAlone();
        cellsAreCoded();
        wrongBodiesAndCells();
        check.end();
    }

    private static void bodiesAreNumberedUpToTheLimit() {
        TraitFlattener x = new TraitFlattener(2, 2, 2, 2);
        for (int n = 0; n < 16; n++) {
            check.same("bodyLength(" + n + ") before", x.bodyLength(n), TraitFlattener.BAD);
            check.same("beginBody()", x.beginBody(), n);
            check.same("bodyLength(" + n + ") after", x.bodyLength(n), 0);
        }
        check.refused(x, "the 17th beginBody()", x::beginBody, TraitFlattener.BAD);
        check.refused(x, "the 18th beginBody()", x::beginBody, TraitFlattener.BAD);
        check.yes("emit into the last body after a refused beginBody()", x.emit(TraitFlattener.OP_RET, 0));
        check.same("bodyLength(15)", x.bodyLength(15), 1);
    }

    private static void beginningChangesOneBodyAlone() {
        TraitFlattener x = Make.busy();
        Snapshot before = Snapshot.of(x);
        check.same("beginBody()", x.beginBody(), 4);
        check.changed(x, "beginBody()", before, "bodyLength(4)");
        check.same("bodyLength(4)", x.bodyLength(4), 0);
    }

    private static void aClosedBodyStaysAsItIs() {
        TraitFlattener x = new TraitFlattener(1, 1, 1, 1);
        Make.body(x, TraitFlattener.OP_CONST, 1);
        x.beginBody();
        Make.body(x, TraitFlattener.OP_CONST, 3);
        x.emit(TraitFlattener.OP_ADD, 4);
        check.same("bodyLength(0)", x.bodyLength(0), 1);
        check.same("bodyLength(1)", x.bodyLength(1), 0);
        check.same("bodyLength(2)", x.bodyLength(2), 2);
        check.same("code(0, 0)", x.code(0, 0), 257);
    }

    private static void emitNeedsABody() {
        TraitFlattener x = new TraitFlattener(1, 1, 1, 1);
        for (int op = -1; op <= 9; op++) {
            int tried = op;
            check.refused(x, "emit(" + op + ", 0) with no body", () -> x.emit(tried, 0));
        }
        x.beginBody();
        check.same("bodyLength(0)", x.bodyLength(0), 0);
    }

    private static void emitKnowsNineOpcodes() {
        TraitFlattener x = new TraitFlattener(1, 1, 1, 1);
        x.beginBody();
        for (int op : new int[] {-1, -2, 9, 10, 16, 255, 256, 264}) {
            check.refused(x, "emit(" + op + ", 0)", () -> x.emit(op, 0));
        }
        for (int op : Make.FAR) {
            check.refused(x, "emit(" + op + ", 0)", () -> x.emit(op, 0));
        }
        for (int op = 0; op <= 8; op++) {
            check.yes("emit(" + op + ", 0)", x.emit(op, 0));
            check.same("code(0, " + op + ")", x.code(0, op), op * 256);
        }
    }

    private static void emitStopsAtSixteenCells() {
        TraitFlattener x = new TraitFlattener(1, 1, 2, 1);
        Make.body(x, TraitFlattener.OP_CONST, 9);
        x.beginBody();
        for (int i = 0; i < 16; i++) {
            check.same("bodyLength(1)", x.bodyLength(1), i);
            check.yes("emit of cell " + i, x.emit(TraitFlattener.OP_ADD, i));
        }
        for (int op = -1; op <= 9; op++) {
            int tried = op;
            check.refused(x, "emit(" + op + ", 0) into a full body", () -> x.emit(tried, 0));
        }
        check.same("bodyLength(1)", x.bodyLength(1), 16);
        for (int i = 0; i < 16; i++) {
            check.same("code(1, " + i + ")", x.code(1, i), 512 + i);
        }
        x.beginBody();
        check.yes("emit into the next body", x.emit(TraitFlattener.OP_RET, 0));
    }

    private static void emitWantsAFittingSelector() {
        for (int selectors : new int[] {1, 2, 7, 16}) {
            TraitFlattener x = new TraitFlattener(1, 1, selectors, 1);
            for (int op : new int[] {TraitFlattener.OP_SEND, TraitFlattener.OP_SUPER}) {
                x.beginBody();
                for (int k = 0; k < selectors; k++) {
                    check.yes("emit(" + op + ", " + k + ") of " + selectors, x.emit(op, k));
                }
                int body = x.beginBody();
                for (int k : new int[] {-128, -1, selectors, selectors + 1, 127, 256}) {
                    check.refused(x, "emit(" + op + ", " + k + ") of " + selectors, () -> x.emit(op, k));
                }
                for (int k : Make.FAR) {
                    check.refused(x, "emit(" + op + ", " + k + ")", () -> x.emit(op, k));
                }
                check.same("bodyLength(" + body + ")", x.bodyLength(body), 0);
            }
        }
    }

    private static void emitWantsAFittingNumber() {
        TraitFlattener x = new TraitFlattener(1, 1, 1, 1);
        for (int op : new int[] {TraitFlattener.OP_CONST, TraitFlattener.OP_ADD, TraitFlattener.OP_MUL}) {
            int body = x.beginBody();
            for (int k : new int[] {-130, -129, 128, 129, 255, 256}) {
                check.refused(x, "emit(" + op + ", " + k + ")", () -> x.emit(op, k));
            }
            for (int k : Make.FAR) {
                check.refused(x, "emit(" + op + ", " + k + ")", () -> x.emit(op, k));
            }
            int[] fitting = {-128, -127, -1, 0, 1, 126, 127};
            for (int i = 0; i < fitting.length; i++) {
                check.yes("emit(" + op + ", " + fitting[i] + ")", x.emit(op, fitting[i]));
                check.same("code(" + body + ", " + i + ")", x.code(body, i), op * 256 + (fitting[i] & 255));
            }
        }
    }

    private static void emitDropsTheOperandWhereThereIsNone() {
        TraitFlattener x = new TraitFlattener(1, 1, 1, 1);
        int[] ops = {TraitFlattener.OP_ARG, TraitFlattener.OP_STORE, TraitFlattener.OP_ADD_TMP, TraitFlattener.OP_RET};
        for (int op : ops) {
            int body = x.beginBody();
            int[] operands = {0, 1, -1, 128, 1000, Integer.MIN_VALUE, Integer.MAX_VALUE};
            for (int i = 0; i < operands.length; i++) {
                check.yes("emit(" + op + ", " + operands[i] + ")", x.emit(op, operands[i]));
                check.same("code(" + body + ", " + i + ")", x.code(body, i), op * 256);
            }
        }
    }

    private static void emitChangesTheOpenBodyAlone() {
        TraitFlattener x = Make.busy();
        Snapshot before = Snapshot.of(x);
        check.yes("emit(2, 5)", x.emit(TraitFlattener.OP_ADD, 5));
        check.changed(x, "emit(2, 5)", before, "bodyLength(3)", "code(3, 1)");
        check.same("bodyLength(3)", x.bodyLength(3), 2);
        check.same("code(3, 1)", x.code(3, 1), 517);
    }

    private static void cellsAreCoded() {
        TraitFlattener x = new TraitFlattener(1, 1, 16, 1);
        Make.body(x, TraitFlattener.OP_CONST, -1, TraitFlattener.OP_RET, 77, TraitFlattener.OP_MUL, -128,
                TraitFlattener.OP_SEND, 15, TraitFlattener.OP_SUPER, 3, TraitFlattener.OP_ADD, 127);
        int[] want = {511, 2048, 896, 1551, 1795, 639};
        for (int i = 0; i < want.length; i++) {
            check.same("code(0, " + i + ")", x.code(0, i), want[i]);
        }
        Snapshot before = Snapshot.of(x);
        check.changed(x, "reading", before);
    }

    private static void wrongBodiesAndCells() {
        TraitFlattener x = new TraitFlattener(1, 1, 1, 1);
        Make.body(x, TraitFlattener.OP_CONST, 1, TraitFlattener.OP_RET, 0);
        x.beginBody();
        for (int body : new int[] {-3, -2, -1, 2, 3, 15, 16, 17}) {
            check.same("bodyLength(" + body + ")", x.bodyLength(body), TraitFlattener.BAD);
            check.same("code(" + body + ", 0)", x.code(body, 0), TraitFlattener.BAD);
        }
        for (int far : Make.FAR) {
            check.same("bodyLength(" + far + ")", x.bodyLength(far), TraitFlattener.BAD);
            check.same("code(" + far + ", 0)", x.code(far, 0), TraitFlattener.BAD);
            check.same("code(0, " + far + ")", x.code(0, far), TraitFlattener.BAD);
        }
        check.same("code(0, 1)", x.code(0, 1), 2048);
        for (int i : new int[] {-1, 2, 3, 15, 16, 256}) {
            check.same("code(0, " + i + ")", x.code(0, i), TraitFlattener.BAD);
        }
        for (int i = -1; i <= 16; i++) {
            check.same("code(1, " + i + ") of an empty body", x.code(1, i), TraitFlattener.BAD);
        }
    }
}
