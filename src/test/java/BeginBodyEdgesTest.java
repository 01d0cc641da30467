/** Promise 2: the sentences that name a boundary case, each with a test of its own. */
public final class BeginBodyEdgesTest {
    private static final Check check = new Check();
    private static final int BAD = TraitFlattener.BAD;
    private static final int ADD = TraitFlattener.OP_ADD;

    public static void main(String[] args) {
        check.holds("`beginBody()` begins a new empty body.", BeginBodyEdgesTest::aNewBodyIsEmpty);
        check.holds("It is refused, answering BAD with nothing changed, if MAX_BODIES (16) bodies have already been"
                + " begun.", BeginBodyEdgesTest::theSeventeenthIsRefused);
        check.holds("The new body gets the next number (0 for the first, then 1, and so on) and that number is"
                + " answered.", BeginBodyEdgesTest::numbersCountUp);
        check.holds("The new body has length 0 and becomes the OPEN body.", BeginBodyEdgesTest::theNewBodyIsOpen);
        check.holds("The body that was open before stays as it is forever: no cell can be appended to it again.",
                BeginBodyEdgesTest::theFormerBodyIsClosed);
        check.holds("Nothing else changes.", BeginBodyEdgesTest::nothingElseChanges);
        check.end();
    }

    private static void aNewBodyIsEmpty() {
        TraitFlattener x = new TraitFlattener(1, 1, 1, 1);
        for (int n : Make.range(0, 15)) {
            x.beginBody();
            check.same("bodyLength(" + n + ")", x.bodyLength(n), 0);
            check.same("code(" + n + ", 0)", x.code(n, 0), BAD);
            Make.repeat(x, 16, ADD, n);
        }
    }

    private static void theSeventeenthIsRefused() {
        TraitFlattener x = new TraitFlattener(2, 2, 2, 2);
        for (int n : Make.range(1, 15)) {
            x.beginBody();
        }
        check.same("the 16th beginBody()", x.beginBody(), 15);
        check.refused(x, "the 17th beginBody()", x::beginBody, BAD);
        check.yes("emit into body 15, which is still open", x.emit(ADD, 7));
        check.same("code(15, 0)", x.code(15, 0), 512 + 7);
        check.refused(x, "the 18th beginBody()", x::beginBody, BAD);
        check.yes("emit into body 15, which is still open", x.emit(ADD, 8));
        check.same("code(15, 1)", x.code(15, 1), 512 + 8);
        for (int i = 0; i < 1000; i++) {
            check.same("one beginBody() too many", x.beginBody(), BAD);
        }
        TraitFlattener full = Make.full();
        check.refused(full, "beginBody() when all is full", full::beginBody, BAD);
    }

    private static void numbersCountUp() {
        TraitFlattener x = new TraitFlattener(1, 1, 1, 1);
        for (int n : Make.range(0, 15)) {
            check.same("beginBody()", x.beginBody(), n);
            check.same("bodyLength(" + n + ")", x.bodyLength(n), 0);
            check.same("bodyLength(" + (n + 1) + ")", x.bodyLength(n + 1), BAD);
        }
    }

    private static void theNewBodyIsOpen() {
        TraitFlattener x = new TraitFlattener(1, 1, 1, 1);
        for (int n : Make.range(0, 15)) {
            x.beginBody();
            check.same("bodyLength(" + n + ")", x.bodyLength(n), 0);
            check.yes("emit into body " + n, x.emit(ADD, n));
            check.same("bodyLength(" + n + ")", x.bodyLength(n), 1);
            check.same("code(" + n + ", 0)", x.code(n, 0), 512 + n);
        }
    }

    // Bodies are closed empty, with some cells, one short of full and full.
    private static void theFormerBodyIsClosed() {
        for (int length : new int[] {0, 1, 7, 15, 16}) {
            TraitFlattener x = new TraitFlattener(1, 1, 1, 1);
            x.beginBody();
            Make.repeat(x, length, ADD, 3);
            for (int n : Make.range(1, 15)) {
                x.beginBody();
                Make.repeat(x, 16, ADD, n);
                check.same("bodyLength(0), " + n + " bodies later", x.bodyLength(0), length);
                check.same("code(0, last), " + n + " bodies later", x.code(0, length - 1), length == 0 ? BAD : 515);
                check.same("code(0, next), " + n + " bodies later", x.code(0, length), BAD);
            }
        }
    }

    private static void nothingElseChanges() {
        TraitFlattener x = Make.busy();
        Snapshot before = Snapshot.of(x);
        check.same("beginBody()", x.beginBody(), 4);
        check.changed(x, "beginBody()", before, "bodyLength(4)");
        before = Snapshot.of(x);
        check.same("beginBody() after an empty one", x.beginBody(), 5);
        check.changed(x, "beginBody()", before, "bodyLength(5)");
    }
}
