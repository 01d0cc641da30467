/** Promise 6: the sentences that name a boundary case, each with a test of its own. */
public final class DefineEdgesTest {
    private static final Check check = new Check();
    private static final int NONE = TraitFlattener.NONE;
    private static final int BAD = TraitFlattener.BAD;
    private static final int[] CORNERS = {0, 7, 8, 15};

    public static void main(String[] args) {
        check.holds("Passing NONE as body removes the own method.", DefineEdgesTest::noneRemoves);
        check.holds("It is refused (false, nothing changes) if owner is not a valid owner id, sel is not in 0..nS-1,"
                + " or body is neither NONE nor a valid body.", () -> {
                    noSuchOwner();
                    noSuchSelector();
                    noSuchBody();
                });
        check.holds("Otherwise it replaces the former own method (also with the same value) and answers true.",
                DefineEdgesTest::theFormerOneIsReplaced);
        check.holds("Any begun body may be given, including the open body and empty bodies.",
                DefineEdgesTest::anyBegunBody);
        check.holds("Only that one own method changes.", DefineEdgesTest::onlyOneOwnMethodChanges);
        check.holds("Provided values and lookup answers follow from the new state.",
                DefineEdgesTest::othersFollow);
        check.holds("`ownMethod(owner, sel)` answers own(owner)[sel], which is a body or NONE.",
                DefineEdgesTest::theOwnMethodIsAnswered);
        check.holds("It answers BAD if owner is not valid or sel is not in 0..nS-1.",
                DefineEdgesTest::noSuchOwnMethod);
        check.end();
    }

    private static TraitFlattener withBodies(int classes, int traits, int selectors, int bodies) {
        TraitFlattener x = new TraitFlattener(classes, traits, selectors, 2);
        Make.numberedBodies(x, bodies);
        return x;
    }

    private static void noneRemoves() {
        TraitFlattener x = withBodies(8, 8, 16, 16);
        for (int owner : CORNERS) {
            for (int body : CORNERS) {
                check.yes("define(" + owner + ", 15, " + body + ")", x.define(owner, 15, body));
                check.yes("define(" + owner + ", 15, NONE)", x.define(owner, 15, NONE));
                check.same("ownMethod(" + owner + ", 15)", x.ownMethod(owner, 15), NONE);
                check.yes("define(" + owner + ", 15, NONE) again", x.define(owner, 15, NONE));
                check.same("ownMethod(" + owner + ", 15)", x.ownMethod(owner, 15), NONE);
                check.same("provided(" + owner + ", 15)", x.provided(owner, 15), NONE);
            }
        }
        TraitFlattener noBodies = new TraitFlattener(1, 1, 1, 1);
        check.yes("define(0, 0, NONE) with no body begun", noBodies.define(0, 0, NONE));
        check.same("ownMethod(0, 0)", noBodies.ownMethod(0, 0), NONE);
    }

    private static void noSuchOwner() {
        int[][] sizes = {{1, 1}, {3, 5}, {8, 1}, {1, 8}, {8, 8}};
        for (int[] size : sizes) {
            TraitFlattener x = withBodies(size[0], size[1], 2, 2);
            for (int owner : Make.outside(size[0])) {
                if (owner < 8 || owner >= 8 + size[1]) {
                    check.refused(x, "define(" + owner + ", 0, 0)", () -> x.define(owner, 0, 0));
                    check.refused(x, "define(" + owner + ", 0, NONE)", () -> x.define(owner, 0, NONE));
                }
            }
            check.refused(x, "define after the last trait", () -> x.define(8 + size[1], 0, 0));
        }
    }

    private static void noSuchSelector() {
        for (int selectors : Make.range(1, 16)) {
            TraitFlattener x = withBodies(2, 2, selectors, 2);
            for (int sel : Make.outside(selectors)) {
                check.refused(x, "define(0, " + sel + ", 0)", () -> x.define(0, sel, 0));
                check.refused(x, "define(9, " + sel + ", NONE)", () -> x.define(9, sel, NONE));
            }
            check.yes("define of the last selector", x.define(1, selectors - 1, 1));
        }
    }

    private static void noSuchBody() {
        for (int begun : Make.range(0, 16)) {
            TraitFlattener x = withBodies(2, 2, 2, begun);
            for (int body : Make.outside(begun)) {
                if (body != NONE) {
                    check.refused(x, begun + " begun: define(0, 0, " + body + ")", () -> x.define(0, 0, body));
                    check.refused(x, begun + " begun: define(9, 1, " + body + ")", () -> x.define(9, 1, body));
                }
            }
            check.refused(x, "define of CONFLICT", () -> x.define(0, 0, TraitFlattener.CONFLICT));
            check.refused(x, "define of BAD", () -> x.define(0, 0, BAD));
        }
    }

    private static void theFormerOneIsReplaced() {
        TraitFlattener x = withBodies(8, 8, 16, 16);
        for (int owner : CORNERS) {
            for (int sel : CORNERS) {
                for (int body : new int[] {0, 0, 15, 15, 7, NONE, NONE, 0, 15}) {
                    check.yes("define(" + owner + ", " + sel + ", " + body + ")", x.define(owner, sel, body));
                    check.same("ownMethod(" + owner + ", " + sel + ")", x.ownMethod(owner, sel), body);
                }
                Snapshot before = Snapshot.of(x);
                check.yes("define of the same value", x.define(owner, sel, 15));
                check.changed(x, "define of the same value", before);
            }
        }
    }

    private static void anyBegunBody() {
        TraitFlattener x = new TraitFlattener(1, 1, 1, 2);
        for (int open : Make.range(0, 15)) {
            x.beginBody();
            check.yes("define of body " + open + ", open and empty", x.define(0, 0, open));
            check.same("ownMethod(0, 0)", x.ownMethod(0, 0), open);
            check.same("run of an empty body", x.run(0, 0, 9), 9);
            if (open % 2 == 1) {
                x.emit(TraitFlattener.OP_CONST, open);
            }
            for (int body : Make.range(0, open)) {
                check.yes("define of body " + body + " of " + (open + 1), x.define(0, 0, body));
                check.same("ownMethod(0, 0)", x.ownMethod(0, 0), body);
                check.same("run of body " + body, x.run(0, 0, 9), body % 2 == 1 ? body : 9);
            }
        }
    }

    private static void onlyOneOwnMethodChanges() {
        for (int owner : CORNERS) {
            for (int sel : CORNERS) {
                TraitFlattener x = withBodies(8, 8, 16, 16);
                x.run(0, 0, 0);
                for (int other : Make.range(0, 15)) {
                    for (int otherSel : Make.range(0, 15)) {
                        x.define(other, otherSel, (other + otherSel) % 15);
                    }
                }
                x.define(owner, sel, 15);
                for (int other : Make.range(0, 15)) {
                    for (int otherSel : Make.range(0, 15)) {
                        int want = other == owner && otherSel == sel ? 15 : (other + otherSel) % 15;
                        check.same("ownMethod(" + other + ", " + otherSel + ") after define(" + owner + ", " + sel
                                + ", 15)", x.ownMethod(other, otherSel), want);
                    }
                }
                check.same("runStatus()", x.runStatus(), TraitFlattener.STATUS_DNU);
            }
        }
    }

    private static void othersFollow() {
        TraitFlattener x = withBodies(2, 2, 2, 3);
        x.use(9, 0);
        x.use(0, 1);
        x.setSuper(1, 0);
        for (int body : new int[] {2, 2, NONE, 1, 0, NONE}) {
            x.define(8, 1, body);
            check.same("provided(9, 1)", x.provided(9, 1), body);
            check.same("provided(0, 1)", x.provided(0, 1), body);
            check.same("provided(1, 1)", x.provided(1, 1), NONE);
            check.same("lookup(1, 1, 0)", x.lookup(1, 1, 0), body);
            check.same("lookup(1, 1, 2)", x.lookup(1, 1, 2), body == NONE ? NONE : 0);
        }
    }

    private static void theOwnMethodIsAnswered() {
        TraitFlattener x = withBodies(2, 2, 2, 16);
        x.use(0, 0);
        x.use(0, 1);
        x.define(8, 0, 0);
        x.define(9, 0, 15);
        check.same("ownMethod(8, 0)", x.ownMethod(8, 0), 0);
        check.same("ownMethod(9, 0)", x.ownMethod(9, 0), 15);
        check.same("ownMethod(0, 0), which is a conflict of traits", x.ownMethod(0, 0), NONE);
        check.same("ownMethod(0, 1)", x.ownMethod(0, 1), NONE);
    }

    private static void noSuchOwnMethod() {
        int[][] sizes = {{1, 1, 1}, {3, 5, 7}, {8, 1, 16}, {1, 8, 16}, {8, 8, 16}};
        for (int[] size : sizes) {
            TraitFlattener x = withBodies(size[0], size[1], size[2], 1);
            for (int owner : Make.outside(size[0])) {
                int want = owner >= 8 && owner < 8 + size[1] ? NONE : BAD;
                check.same("ownMethod(" + owner + ", 0)", x.ownMethod(owner, 0), want);
            }
            check.same("ownMethod after the last trait", x.ownMethod(8 + size[1], 0), BAD);
            for (int sel : Make.outside(size[2])) {
                check.same("ownMethod(0, " + sel + ")", x.ownMethod(0, sel), BAD);
                check.same("ownMethod(8, " + sel + ")", x.ownMethod(8, sel), BAD);
            }
        }
    }
}
