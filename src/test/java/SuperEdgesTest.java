/** Promise 5: the sentences that name a boundary case, each with a test of its own. */
public final class SuperEdgesTest {
    private static final Check check = new Check();
    private static final int NONE = TraitFlattener.NONE;
    private static final int BAD = TraitFlattener.BAD;

    public static void main(String[] args) {
        check.holds("It is refused (false, nothing changes) if cls is not in 0..nC-1, or if sup is neither NONE nor"
                + " in 0..cls-1.", () -> {
                    noSuchClass();
                    noSuchSuperclass();
                });
        check.holds("Hence class 0 can only be given NONE, and a class can never be its own superclass or have a"
                + " higher-numbered one.", SuperEdgesTest::notItselfAndNotHigher);
        check.holds("Otherwise it sets the superclass, replacing any former one (also when it is the same), and"
                + " answers true.", SuperEdgesTest::theFormerOneIsReplaced);
        check.holds("Superclasses always have smaller numbers than their subclasses, so every chain of superclasses"
                + " ends at NONE.", SuperEdgesTest::everyChainEnds);
        check.holds("`superOf(cls)` answers the superclass of cls, which is a class number or NONE.",
                SuperEdgesTest::theSuperclassIsAnswered);
        check.holds("It answers BAD if cls is not in 0..nC-1.", SuperEdgesTest::noSuchClassToAsk);
        check.end();
    }

    /** Each class but the first has the one before it as superclass. */
    private static TraitFlattener ladder(int classes) {
        TraitFlattener x = new TraitFlattener(classes, 2, 2, 2);
        for (int cls = 1; cls < classes; cls++) {
            x.setSuper(cls, cls - 1);
        }
        return x;
    }

    private static void noSuchClass() {
        for (int classes : Make.range(1, 8)) {
            TraitFlattener x = ladder(classes);
            for (int cls : Make.outside(classes)) {
                for (int sup : new int[] {NONE, 0, classes - 1, cls - 1}) {
                    check.refused(x, classes + " classes: setSuper(" + cls + ", " + sup + ")",
                            () -> x.setSuper(cls, sup));
                }
            }
        }
    }

    private static void noSuchSuperclass() {
        TraitFlattener x = ladder(8);
        for (int cls : Make.range(0, 7)) {
            for (int sup : Make.outside(cls)) {
                if (sup != NONE) {
                    check.refused(x, "setSuper(" + cls + ", " + sup + ")", () -> x.setSuper(cls, sup));
                }
            }
        }
        check.refused(x, "setSuper(7, CONFLICT)", () -> x.setSuper(7, TraitFlattener.CONFLICT));
        check.refused(x, "setSuper(7, BAD)", () -> x.setSuper(7, BAD));
        check.refused(x, "setSuper(7, TRAIT_BASE)", () -> x.setSuper(7, TraitFlattener.TRAIT_BASE));
    }

    private static void notItselfAndNotHigher() {
        TraitFlattener x = ladder(8);
        check.yes("setSuper(0, NONE)", x.setSuper(0, NONE));
        for (int cls : Make.range(0, 7)) {
            for (int sup : Make.range(cls, 8)) {
                check.refused(x, "setSuper(" + cls + ", " + sup + ")", () -> x.setSuper(cls, sup));
            }
            for (int sup : Make.range(0, cls - 1)) {
                check.yes("setSuper(" + cls + ", " + sup + ")", x.setSuper(cls, sup));
                check.same("superOf(" + cls + ")", x.superOf(cls), sup);
            }
        }
    }

    private static void theFormerOneIsReplaced() {
        TraitFlattener x = ladder(8);
        int[] superclasses = {6, 6, 0, 0, NONE, NONE, 3, NONE, 6};
        for (int sup : superclasses) {
            check.yes("setSuper(7, " + sup + ")", x.setSuper(7, sup));
            check.same("superOf(7)", x.superOf(7), sup);
            check.same("superOf(6)", x.superOf(6), 5);
        }
        check.yes("setSuper(0, NONE), the same", x.setSuper(0, NONE));
        check.same("superOf(0)", x.superOf(0), NONE);
        Snapshot before = Snapshot.of(x);
        check.yes("setSuper(7, 6), the same", x.setSuper(7, 6));
        check.changed(x, "setSuper(7, 6), the same", before);
        check.yes("setSuper(7, 5)", x.setSuper(7, 5));
        check.changed(x, "setSuper(7, 5)", before, "superOf(7)");
    }

    // Every superclass is tried for every class, the wrong ones too, and the chain is walked each time.
    private static void everyChainEnds() {
        TraitFlattener x = ladder(8);
        for (int sup : Make.range(-3, 9)) {
            for (int cls : Make.range(-1, 8)) {
                x.setSuper(cls, sup);
                for (int start : Make.range(0, 7)) {
                    check.same("end of the chain of " + start, endOfChain(x, start), NONE);
                }
            }
        }
        check.same("end of the longest chain", endOfChain(ladder(8), 7), NONE);
    }

    private static int endOfChain(TraitFlattener x, int start) {
        int at = start;
        for (int hop = 0; hop < 8 && at >= 0; hop++) {
            int next = x.superOf(at);
            check.yes("superOf(" + at + ") = " + next + " is smaller", next < at);
            at = next;
        }
        return at;
    }

    private static void theSuperclassIsAnswered() {
        for (int cls : Make.range(0, 7)) {
            TraitFlattener x = new TraitFlattener(8, 1, 1, 1);
            check.same("superOf(" + cls + ") at first", x.superOf(cls), NONE);
            for (int sup : Make.range(-1, cls - 1)) {
                x.setSuper(cls, sup);
                check.same("superOf(" + cls + ")", x.superOf(cls), sup);
            }
        }
    }

    private static void noSuchClassToAsk() {
        for (int classes : Make.range(1, 8)) {
            TraitFlattener x = ladder(classes);
            for (int cls : Make.outside(classes)) {
                check.same(classes + " classes: superOf(" + cls + ")", x.superOf(cls), BAD);
            }
            for (int cls : Make.range(classes, 17)) {
                check.same(classes + " classes: superOf(" + cls + ")", x.superOf(cls), BAD);
            }
        }
    }
}
