/** Promise 14: the sentences that name a boundary case, each with a test of its own. */
public final class RunStatusEdgesTest {
    private static final Check check = new Check();
    private static final int NOT_RUN = TraitFlattener.STATUS_NOT_RUN;

    public static void main(String[] args) {
        check.holds("`runStatus()` answers the status of the last run that was not refused.",
                RunStatusEdgesTest::theLastRunCounts);
        check.holds("It answers STATUS_NOT_RUN if there was no such run.", RunStatusEdgesTest::noSuchRun);
        check.holds("Only a run that is not refused changes it; every other call, including refused runs, leaves it"
                + " as it is.", RunStatusEdgesTest::otherCallsLeaveIt);
        check.holds("It changes nothing.", RunStatusEdgesTest::askingChangesNothing);
        check.end();
    }

    /** An object on which run(0, s, 5) ends with status s, for s in 1..5; there are 15 bodies, and body 14 is open. */
    private static TraitFlattener everyStatus() {
        TraitFlattener x = new TraitFlattener(2, 3, 14, 5);
        Make.numberedBodies(x, 2);
        x.define(0, TraitFlattener.STATUS_OK, 1);
        x.define(8, TraitFlattener.STATUS_CONFLICT, 0);
        x.define(9, TraitFlattener.STATUS_CONFLICT, 1);
        x.use(0, 0);
        x.use(0, 1);
        x.define(0, TraitFlattener.STATUS_DEPTH, Make.body(x, TraitFlattener.OP_SEND, TraitFlattener.STATUS_DEPTH));
        int[] branching = {TraitFlattener.STATUS_STEPS, 6, 7, 8};
        for (int sel : branching) {
            x.define(0, sel, x.beginBody());
            Make.repeat(x, 16, TraitFlattener.OP_SEND, sel + 1);
        }
        x.define(0, 9, 1);
        while (x.bodyLength(14) == TraitFlattener.BAD) {
            x.beginBody();
        }
        return x;
    }

    private static void theLastRunCounts() {
        TraitFlattener x = everyStatus();
        for (int first : Make.range(1, 5)) {
            for (int second : Make.range(1, 5)) {
                x.run(0, first, 5);
                check.same("runStatus() after run(0, " + first + ", 5)", x.runStatus(), first);
                x.run(0, second, 5);
                check.same("runStatus() after run(0, " + second + ", 5)", x.runStatus(), second);
                x.run(2, first, 5);
                x.run(0, 14, 5);
                check.same("runStatus() after refused runs", x.runStatus(), second);
            }
        }
    }

    private static void noSuchRun() {
        check.same("runStatus() of a new object", new TraitFlattener(1, 1, 1, 1).runStatus(), NOT_RUN);
        TraitFlattener x = everyStatus();
        check.same("runStatus() after edits alone", x.runStatus(), NOT_RUN);
        for (int wrong : Make.outside(14)) {
            x.run(wrong, 1, 5);
            x.run(0, wrong, 5);
            x.run(wrong, wrong, 5);
            check.same("runStatus() after refused runs alone", x.runStatus(), NOT_RUN);
        }
        x.run(0, 1, 5);
        check.same("runStatus() after a run", x.runStatus(), TraitFlattener.STATUS_OK);
    }

    private static void otherCallsLeaveIt() {
        for (int status : Make.range(0, 5)) {
            TraitFlattener x = everyStatus();
            if (status != NOT_RUN) {
                x.run(0, status, 5);
            }
            Runnable[] calls = {
                () -> x.emit(TraitFlattener.OP_ADD, 1), () -> x.emit(99, 1), x::beginBody, x::beginBody,
                () -> x.setSuper(1, 0), () -> x.setSuper(0, 1),
                () -> x.define(1, 1, 0), () -> x.define(1, 1, TraitFlattener.NONE), () -> x.define(1, 1, 99),
                () -> x.define(0, TraitFlattener.STATUS_OK, TraitFlattener.NONE),
                () -> x.define(0, TraitFlattener.STATUS_DNU, 1), () -> x.define(0, TraitFlattener.STATUS_DEPTH, 1),
                () -> x.use(0, 0), () -> x.use(8, 0), () -> x.exclude(0, TraitFlattener.STATUS_CONFLICT),
                () -> x.exclude(99, 0), () -> x.alias(0, 1, 2), () -> x.alias(0, 1, 3),
                () -> x.bodyLength(0), () -> x.bodyLength(99), () -> x.code(0, 0), () -> x.code(0, 99),
                () -> x.superOf(0), () -> x.superOf(99), () -> x.ownMethod(0, 0), () -> x.ownMethod(99, 0),
                () -> x.componentInfo(0, 0), () -> x.componentInfo(0, 99), () -> x.provided(0, 3),
                () -> x.provided(99, 0), () -> x.lookup(0, 3, 0), () -> x.lookup(0, 13, 0), () -> x.lookup(0, 0, 99),
                () -> x.run(2, 1, 5), () -> x.run(-1, 1, 5), () -> x.run(0, 14, 5), () -> x.run(0, -1, 5),
                x::runStatus, () -> new TraitFlattener(1, 1, 1, 1).run(0, 0, 0)};
            for (int i = 0; i < calls.length; i++) {
                calls[i].run();
                check.same("runStatus() after other call number " + i, x.runStatus(), status);
            }
        }
    }

    private static void askingChangesNothing() {
        for (int status : Make.range(0, 5)) {
            TraitFlattener x = everyStatus();
            if (status != NOT_RUN) {
                x.run(0, status, 5);
            }
            Snapshot before = Snapshot.of(x);
            for (int i = 0; i < 10; i++) {
                check.same("runStatus() once more", x.runStatus(), status);
            }
            check.changed(x, "runStatus()", before);
            check.yes("the open body stays open", x.emit(TraitFlattener.OP_RET, 0));
            check.same("bodyLength(14)", x.bodyLength(14), 1);
        }
    }
}
