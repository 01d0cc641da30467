/** Promise 9: the sentences that name a boundary case, each with a test of its own. */
public final class AliasEdgesTest {
    private static final Check check = new Check();
    private static final int NONE = TraitFlattener.NONE;
    private static final int EXCLUDED = TraitFlattener.FIELD_EXCLUDED;
    private static final int ALIAS = TraitFlattener.FIELD_ALIAS;

    public static void main(String[] args) {
        check.holds("newSel may equal oldSel.", AliasEdgesTest::aSelectorOfItself);
        check.holds("comp does not exist.", AliasEdgesTest::noSuchComponent);
        check.holds("newSel or oldSel is not in 0..nS-1.", AliasEdgesTest::noSuchSelector);
        check.holds("comp already aliases newSel to a selector other than oldSel.", AliasEdgesTest::aliasedOtherwise);
        check.holds("If comp already aliases newSel to oldSel, it answers true and nothing changes.",
                AliasEdgesTest::aliasedAlready);
        check.holds("Otherwise it records the alias and answers true.", AliasEdgesTest::everyPair);
        check.holds("Aliases are never removed or replaced.", AliasEdgesTest::aliasesStay);
        check.holds("Exclusions are unaffected.", AliasEdgesTest::exclusionsStay);
        check.holds("Several new selectors may be aliased to the same old selector.", AliasEdgesTest::manyToOne);
        check.end();
    }

    private static TraitFlattener withComponents(int selectors, int components) {
        TraitFlattener x = new TraitFlattener(2, 3, selectors, 2);
        for (int comp = 0; comp < components; comp++) {
            x.use(comp % 2, comp % 3);
        }
        return x;
    }

    private static void aSelectorOfItself() {
        for (int selectors : Make.range(1, 16)) {
            TraitFlattener x = withComponents(selectors, 2);
            for (int sel : Make.range(0, selectors - 1)) {
                check.yes("alias(1, " + sel + ", " + sel + ")", x.alias(1, sel, sel));
                check.same("alias of " + sel, x.componentInfo(1, ALIAS + sel), sel);
            }
        }
    }

    private static void noSuchComponent() {
        for (int made : Make.range(0, 16)) {
            TraitFlattener x = withComponents(3, made);
            for (int comp : Make.outside(made)) {
                check.refused(x, made + " made: alias(" + comp + ", 0, 1)", () -> x.alias(comp, 0, 1));
                check.refused(x, made + " made: alias(" + comp + ", 2, 2)", () -> x.alias(comp, 2, 2));
            }
        }
    }

    private static void noSuchSelector() {
        for (int selectors : Make.range(1, 16)) {
            TraitFlattener x = withComponents(selectors, 2);
            int last = selectors - 1;
            for (int sel : Make.outside(selectors)) {
                check.refused(x, "alias(1, " + sel + ", 0) of " + selectors, () -> x.alias(1, sel, 0));
                check.refused(x, "alias(1, 0, " + sel + ") of " + selectors, () -> x.alias(1, 0, sel));
                check.refused(x, "alias(0, " + last + ", " + sel + ")", () -> x.alias(0, last, sel));
                check.refused(x, "alias(0, " + sel + ", " + sel + ")", () -> x.alias(0, sel, sel));
            }
            check.yes("alias(1, 0, " + last + ")", x.alias(1, 0, last));
            check.yes("alias(0, " + last + ", 0)", x.alias(0, last, 0));
        }
    }

    // Old selector 0 is among those recorded: it is an alias like any other.
    private static void aliasedOtherwise() {
        for (int oldSel : Make.range(0, 15)) {
            TraitFlattener x = withComponents(16, 3);
            for (int newSel : new int[] {0, 7, 15}) {
                x.alias(1, newSel, oldSel);
                for (int other : Make.range(0, 15)) {
                    if (other != oldSel) {
                        check.refused(x, "alias(1, " + newSel + ", " + other + ") over " + oldSel,
                                () -> x.alias(1, newSel, other));
                    }
                }
                check.same("alias of " + newSel, x.componentInfo(1, ALIAS + newSel), oldSel);
                check.yes("alias in another component", x.alias(0, newSel, 15 - oldSel));
                check.yes("alias in another component", x.alias(2, newSel, 15 - oldSel));
            }
        }
    }

    private static void aliasedAlready() {
        TraitFlattener x = withComponents(16, 3);
        for (int sel : Make.range(0, 15)) {
            x.alias(1, sel, 15 - sel);
            Snapshot before = Snapshot.of(x);
            check.yes("alias(1, " + sel + ", " + (15 - sel) + ") again", x.alias(1, sel, 15 - sel));
            check.changed(x, "the same alias again", before);
        }
    }

    private static void everyPair() {
        for (int newSel : Make.range(0, 15)) {
            TraitFlattener x = withComponents(16, 16);
            for (int oldSel : Make.range(0, 15)) {
                Snapshot before = Snapshot.of(x);
                String call = "alias(" + oldSel + ", " + newSel + ", " + oldSel + ")";
                check.yes(call, x.alias(oldSel, newSel, oldSel));
                check.changed(x, call, before, "componentInfo(" + oldSel + ", " + (16 + newSel) + ")");
                check.same("after " + call, x.componentInfo(oldSel, ALIAS + newSel), oldSel);
            }
        }
    }

    private static void aliasesStay() {
        TraitFlattener x = Make.busy();
        x.alias(0, 3, 3);
        x.exclude(1, 2);
        x.exclude(1, 0);
        x.alias(1, 2, 3);
        x.alias(1, 2, NONE);
        x.alias(0, 3, 0);
        x.beginBody();
        x.emit(TraitFlattener.OP_RET, 0);
        x.define(1, 2, 0);
        x.define(1, 2, NONE);
        x.define(9, 0, NONE);
        x.setSuper(1, NONE);
        x.use(1, 1);
        x.run(1, 2, 1);
        check.same("alias of 2 in 1", x.componentInfo(1, ALIAS + 2), 0);
        check.same("alias of 3 in 0", x.componentInfo(0, ALIAS + 3), 3);
        check.same("alias of 2 in the new one", x.componentInfo(3, ALIAS + 2), NONE);
    }

    private static void exclusionsStay() {
        TraitFlattener x = withComponents(16, 3);
        x.exclude(1, 0);
        x.exclude(1, 15);
        for (int sel : Make.range(0, 15)) {
            x.alias(1, sel, 15 - sel);
            x.alias(0, sel, sel);
            x.alias(1, sel, sel);
            check.same("exclusions of 1", x.componentInfo(1, EXCLUDED), 1 + (1 << 15));
            check.same("exclusions of 0", x.componentInfo(0, EXCLUDED), 0);
        }
    }

    private static void manyToOne() {
        for (int oldSel : new int[] {0, 9, 15}) {
            TraitFlattener x = withComponents(16, 2);
            for (int newSel : Make.range(0, 15)) {
                check.yes("alias(1, " + newSel + ", " + oldSel + ")", x.alias(1, newSel, oldSel));
            }
            for (int newSel : Make.range(0, 15)) {
                check.same("alias of " + newSel, x.componentInfo(1, ALIAS + newSel), oldSel);
            }
        }
    }
}
