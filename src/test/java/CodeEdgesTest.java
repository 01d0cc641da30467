/** Promise 4: the sentences that name a boundary case, each with a test of its own. */
public final class CodeEdgesTest {
    private static final Check check = new Check();
    private static final int BAD = TraitFlattener.BAD;

    public static void main(String[] args) {
        check.holds("`bodyLength(body)` answers the number of cells of body, in 0..MAX_BODY_LENGTH.",
                CodeEdgesTest::lengthsGoFromZeroToSixteen);
        check.holds("It answers BAD if body is not valid, including negative numbers and numbers of bodies not yet"
                + " begun.", CodeEdgesTest::noSuchBody);
        check.holds("`code(body, i)` answers cell i of body as op * 256 + (k & 255).",
                CodeEdgesTest::operandsWrapIntoEightBits);
        check.holds("For example, OP_CONST with k = -1 gives 511, and OP_RET gives 2048.", CodeEdgesTest::examples);
        check.holds("It answers BAD if body is not valid or i is not in 0..bodyLength(body)-1.",
                CodeEdgesTest::noSuchCell);
        check.holds("In particular, an empty body has no valid i.", CodeEdgesTest::anEmptyBodyHasNoCell);
        check.holds("Both are getters and change nothing.", CodeEdgesTest::readingChangesNothing);
        check.end();
    }

    private static void lengthsGoFromZeroToSixteen() {
        TraitFlattener x = new TraitFlattener(1, 1, 1, 1);
        for (int body : Make.range(0, 15)) {
            x.beginBody();
            check.same("bodyLength(" + body + ") when begun", x.bodyLength(body), 0);
            for (int i : Make.range(1, 16)) {
                x.emit(TraitFlattener.OP_RET, 0);
                check.same("bodyLength(" + body + ")", x.bodyLength(body), i);
            }
            x.emit(TraitFlattener.OP_RET, 0);
            check.same("bodyLength(" + body + ") after a refused cell", x.bodyLength(body), 16);
        }
    }

    private static void noSuchBody() {
        TraitFlattener x = new TraitFlattener(1, 1, 1, 1);
        for (int begun : Make.range(0, 16)) {
            for (int body : Make.outside(begun)) {
                check.same(begun + " begun: bodyLength(" + body + ")", x.bodyLength(body), BAD);
            }
            for (int body : Make.range(begun, 20)) {
                check.same(begun + " begun: bodyLength(" + body + ")", x.bodyLength(body), BAD);
            }
            x.beginBody();
            x.emit(TraitFlattener.OP_RET, 0);
        }
    }

    private static void operandsWrapIntoEightBits() {
        int[] ops = {TraitFlattener.OP_CONST, TraitFlattener.OP_ADD, TraitFlattener.OP_MUL};
        int[] operands = {-128, -127, -2, -1, 0, 1, 126, 127};
        int[] low = {128, 129, 254, 255, 0, 1, 126, 127};
        for (int op : ops) {
            TraitFlattener x = new TraitFlattener(1, 1, 1, 1);
            x.beginBody();
            for (int i : Make.range(0, 7)) {
                x.emit(op, operands[i]);
                check.same("code of " + op + ", " + operands[i], x.code(0, i), op * 256 + low[i]);
            }
        }
    }

    private static void examples() {
        TraitFlattener x = new TraitFlattener(1, 1, 1, 1);
        Make.body(x, TraitFlattener.OP_CONST, -1, TraitFlattener.OP_RET, 0, TraitFlattener.OP_RET, -1);
        check.same("code of CONST -1", x.code(0, 0), 511);
        check.same("code of RET 0", x.code(0, 1), 2048);
        check.same("code of RET -1", x.code(0, 2), 2048);
    }

    private static void noSuchCell() {
        TraitFlattener x = new TraitFlattener(1, 1, 1, 1);
        for (int body : Make.range(0, 15)) {
            for (int wrong : Make.outside(body)) {
                check.same("code(" + wrong + ", 0)", x.code(wrong, 0), BAD);
            }
            x.beginBody();
            Make.repeat(x, body + 1, TraitFlattener.OP_ADD, body);
            for (int i : Make.outside(body + 1)) {
                check.same("code(" + body + ", " + i + ")", x.code(body, i), BAD);
            }
            check.same("code(" + body + ", 0)", x.code(body, 0), 512 + body);
            check.same("code(" + body + ", " + body + ")", x.code(body, body), 512 + body);
        }
        for (int wrong : Make.outside(16)) {
            check.same("code(" + wrong + ", 0)", x.code(wrong, 0), BAD);
            check.same("code(" + wrong + ", " + wrong + ")", x.code(wrong, wrong), BAD);
        }
    }

    // The bodies on both sides are full, so a cell of theirs would show.
    private static void anEmptyBodyHasNoCell() {
        TraitFlattener x = new TraitFlattener(1, 1, 1, 1);
        x.beginBody();
        Make.repeat(x, 16, TraitFlattener.OP_ADD, 1);
        x.beginBody();
        noCell(x, 1, "an empty open body");
        x.beginBody();
        Make.repeat(x, 16, TraitFlattener.OP_ADD, 2);
        noCell(x, 1, "an empty closed body");
        x.beginBody();
        noCell(x, 3, "an empty open body");
    }

    private static void noCell(TraitFlattener x, int body, String what) {
        for (int i : Make.outside(0)) {
            check.same("code(" + body + ", " + i + ") of " + what, x.code(body, i), BAD);
        }
        for (int i : Make.range(-20, 20)) {
            check.same("code(" + body + ", " + i + ") of " + what, x.code(body, i), BAD);
        }
    }

    private static void readingChangesNothing() {
        for (TraitFlattener x : new TraitFlattener[] {new TraitFlattener(1, 1, 1, 1), Make.busy(), Make.full()}) {
            Snapshot before = Snapshot.of(x);
            for (int body : Make.outside(0)) {
                for (int i : Make.outside(0)) {
                    x.code(body, i);
                }
                x.bodyLength(body);
            }
            check.changed(x, "reading lengths and cells", before);
        }
        TraitFlattener x = Make.busy();
        x.bodyLength(0);
        x.code(0, 0);
        check.yes("emit after reading body 0", x.emit(TraitFlattener.OP_RET, 0));
        check.same("bodyLength(0), which was read", x.bodyLength(0), 1);
        check.same("bodyLength(3), which is open", x.bodyLength(3), 2);
    }
}
