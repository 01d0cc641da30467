/** Promise 3: the sentences that name a boundary case, each with a test of its own. */
public final class EmitEdgesTest {
    private static final Check check = new Check();
    private static final int[] WITH_SELECTOR = {TraitFlattener.OP_SEND, TraitFlattener.OP_SUPER};
    private static final int[] WITH_NUMBER = {TraitFlattener.OP_CONST, TraitFlattener.OP_ADD, TraitFlattener.OP_MUL};
    private static final int[] WITHOUT_OPERAND = {TraitFlattener.OP_ARG, TraitFlattener.OP_STORE,
        TraitFlattener.OP_ADD_TMP, TraitFlattener.OP_RET};

    public static void main(String[] args) {
        check.holds("No body has been begun.", EmitEdgesTest::noBodyYet);
        check.holds("op is not in 0..8.", EmitEdgesTest::noSuchOpcode);
        check.holds("The open body already has MAX_BODY_LENGTH (16) cells.", EmitEdgesTest::noRoom);
        check.holds("op is OP_SEND or OP_SUPER and k is not in 0..nS-1.", EmitEdgesTest::noSuchSelector);
        check.holds("op is OP_CONST, OP_ADD or OP_MUL and k is not in -128..127.", EmitEdgesTest::noSuchNumber);
        check.holds("Otherwise the cell is appended at the end of the open body, whose length grows by one, and true"
                + " is answered.", EmitEdgesTest::theCellIsAppended);
        check.holds("For OP_ARG, OP_STORE, OP_ADD_TMP and OP_RET, any k is accepted and is stored as 0.",
                EmitEdgesTest::anyOperandIsStoredAsZero);
        check.holds("For the other opcodes, k is stored as given.", EmitEdgesTest::otherOperandsAreStoredAsGiven);
        check.holds("The open body may already be installed as a method.", EmitEdgesTest::anInstalledBodyMayGrow);
        check.holds("Later runs use its current cells.", EmitEdgesTest::laterRunsUseTheCurrentCells);
        check.holds("Only the open body changes; definitions, components, superclasses and runStatus() do not.",
                EmitEdgesTest::onlyTheOpenBodyChanges);
        check.end();
    }

    private static void noBodyYet() {
        TraitFlattener x = new TraitFlattener(1, 1, 16, 1);
        for (int op : Make.range(-1, 9)) {
            for (int k : new int[] {-1, 0, 1, 127, Integer.MAX_VALUE}) {
                check.refused(x, "emit(" + op + ", " + k + ") with no body", () -> x.emit(op, k));
            }
        }
        check.same("beginBody() after refused cells", x.beginBody(), 0);
        check.same("bodyLength(0)", x.bodyLength(0), 0);
        check.yes("emit with a body", x.emit(TraitFlattener.OP_RET, 0));
    }

    private static void noSuchOpcode() {
        for (int cells : new int[] {0, 1, 15, 16}) {
            TraitFlattener x = new TraitFlattener(1, 1, 1, 1);
            x.beginBody();
            Make.repeat(x, cells, TraitFlattener.OP_ADD, 1);
            for (int op : Make.outside(9)) {
                check.refused(x, "emit(" + op + ", 0) after " + cells + " cells", () -> x.emit(op, 0));
            }
        }
        TraitFlattener x = new TraitFlattener(1, 1, 1, 1);
        x.beginBody();
        for (int op : Make.range(0, 8)) {
            check.yes("emit(" + op + ", 0)", x.emit(op, 0));
        }
    }

    private static void noRoom() {
        TraitFlattener x = new TraitFlattener(1, 1, 1, 1);
        for (int body : Make.range(0, 15)) {
            x.beginBody();
            for (int i : Make.range(0, 15)) {
                check.yes("emit of cell " + i + " of body " + body, x.emit(TraitFlattener.OP_ADD, i));
            }
            for (int op : Make.range(0, 8)) {
                check.refused(x, "emit(" + op + ", 0) as cell 16 of body " + body, () -> x.emit(op, 0));
            }
            check.same("bodyLength(" + body + ")", x.bodyLength(body), 16);
            check.same("code(" + body + ", 15)", x.code(body, 15), 512 + 15);
        }
    }

    private static void noSuchSelector() {
        for (int selectors : Make.range(1, 16)) {
            for (int op : WITH_SELECTOR) {
                TraitFlattener x = new TraitFlattener(8, 8, selectors, 1);
                x.beginBody();
                for (int k : Make.outside(selectors)) {
                    check.refused(x, "emit(" + op + ", " + k + ") of " + selectors, () -> x.emit(op, k));
                }
                check.yes("emit(" + op + ", 0) of " + selectors, x.emit(op, 0));
                int last = selectors - 1;
                check.yes("emit(" + op + ", " + last + ") of " + selectors, x.emit(op, last));
            }
        }
    }

    private static void noSuchNumber() {
        for (int op : WITH_NUMBER) {
            TraitFlattener x = new TraitFlattener(1, 1, 1, 1);
            x.beginBody();
            for (int k : new int[] {Integer.MIN_VALUE, Integer.MIN_VALUE + 127, -65536, -512, -257, -256, -255, -130,
                -129, 128, 129, 255, 256, 257, 383, 512, 65536, Integer.MAX_VALUE - 127, Integer.MAX_VALUE}) {
                check.refused(x, "emit(" + op + ", " + k + ")", () -> x.emit(op, k));
            }
            check.yes("emit(" + op + ", -128)", x.emit(op, -128));
            check.yes("emit(" + op + ", 127)", x.emit(op, 127));
            check.same("bodyLength(0)", x.bodyLength(0), 2);
        }
    }

    private static void theCellIsAppended() {
        TraitFlattener x = new TraitFlattener(1, 1, 1, 1);
        x.beginBody();
        for (int i : Make.range(0, 15)) {
            check.same("bodyLength(0)", x.bodyLength(0), i);
            check.yes("emit of cell " + i, x.emit(TraitFlattener.OP_ADD, 10 + i));
            check.same("bodyLength(0)", x.bodyLength(0), i + 1);
            for (int j : Make.range(0, i)) {
                check.same("code(0, " + j + ")", x.code(0, j), 512 + 10 + j);
            }
        }
    }

    private static void anyOperandIsStoredAsZero() {
        for (int op : WITHOUT_OPERAND) {
            TraitFlattener x = new TraitFlattener(1, 1, 1, 1);
            x.beginBody();
            int[] operands = {Integer.MIN_VALUE, -65536, -257, -256, -129, -128, -1, 0, 1, 16, 127, 128, 255, 256,
                65535, Integer.MAX_VALUE};
            for (int i = 0; i < 16; i++) {
                check.yes("emit(" + op + ", " + operands[i] + ")", x.emit(op, operands[i]));
                check.same("code(0, " + i + ")", x.code(0, i), op * 256);
            }
        }
    }

    private static void otherOperandsAreStoredAsGiven() {
        for (int k : Make.range(-128, 127)) {
            TraitFlattener x = new TraitFlattener(1, 1, 3, 1);
            for (int op : WITH_NUMBER) {
                x.define(0, op - 1, Make.body(x, op, k));
                check.same("code of " + op + ", " + k, x.code(op - 1, 0), op * 256 + (k & 255));
            }
            check.same("run of CONST " + k, x.run(0, 0, 1000), k);
            check.same("run of ADD " + k, x.run(0, 1, 1000), 1000 + k);
            check.same("run of MUL " + k, x.run(0, 2, 1000), 1000 * k);
        }
        for (int op : WITH_SELECTOR) {
            TraitFlattener x = new TraitFlattener(1, 1, 16, 1);
            x.beginBody();
            for (int k : Make.range(0, 15)) {
                x.emit(op, k);
                check.same("code of " + op + ", " + k, x.code(0, k), op * 256 + k);
            }
        }
    }

    private static void anInstalledBodyMayGrow() {
        TraitFlattener x = new TraitFlattener(1, 1, 1, 2);
        x.beginBody();
        check.yes("define of the open empty body", x.define(0, 0, 0));
        check.yes("define of it in a trait", x.define(8, 0, 0));
        for (int i : Make.range(0, 15)) {
            check.yes("emit of cell " + i + " into an installed body", x.emit(TraitFlattener.OP_ADD, 1));
            check.same("bodyLength(0)", x.bodyLength(0), i + 1);
        }
    }

    private static void laterRunsUseTheCurrentCells() {
        TraitFlattener x = new TraitFlattener(2, 1, 2, 2);
        x.beginBody();
        x.define(8, 0, 0);
        x.use(1, 0);
        check.same("run of an empty body", x.run(1, 0, 5), 5);
        for (int i : Make.range(0, 14)) {
            x.emit(TraitFlattener.OP_ADD, 100);
            check.same("run of " + (i + 1) + " cells", x.run(1, 0, 5), 5 + 100 * (i + 1));
        }
        x.emit(TraitFlattener.OP_SEND, 1);
        check.same("run with a send that is not understood as its last cell", x.run(1, 0, 5), 0);
        check.same("runStatus()", x.runStatus(), TraitFlattener.STATUS_DNU);
        x.emit(TraitFlattener.OP_CONST, 1);
        check.same("run after a refused cell", x.run(1, 0, 5), 0);
        check.same("runStatus()", x.runStatus(), TraitFlattener.STATUS_DNU);
    }

    private static void onlyTheOpenBodyChanges() {
        TraitFlattener x = Make.busy();
        for (int i : Make.range(1, 15)) {
            Snapshot before = Snapshot.of(x);
            check.yes("emit of cell " + i, x.emit(TraitFlattener.OP_ADD, i));
            check.changed(x, "emit of cell " + i, before, "bodyLength(3)", "code(3, " + i + ")");
        }
    }
}
