/** Promise 8: the sentences that name a boundary case, each with a test of its own. */
public final class ExcludeEdgesTest {
    private static final Check check = new Check();
    private static final int EXCLUDED = TraitFlattener.FIELD_EXCLUDED;
    private static final int ALIAS = TraitFlattener.FIELD_ALIAS;

    public static void main(String[] args) {
        check.holds("`exclude(comp, sel)` adds sel to the excluded set of component comp.",
                ExcludeEdgesTest::everySelectorOfEveryComponent);
        check.holds("It is refused (false, nothing changes) if comp is not an existing component or sel is not in"
                + " 0..nS-1.", () -> {
                    noSuchComponent();
                    noSuchSelector();
                });
        check.holds("Otherwise it answers true, also if sel was already excluded, in which case nothing changes.",
                ExcludeEdgesTest::excludedAlready);
        check.holds("Exclusions are never removed.", ExcludeEdgesTest::exclusionsStay);
        check.holds("The alias map of the component is unaffected.", ExcludeEdgesTest::aliasesStay);
        check.end();
    }

    private static TraitFlattener withComponents(int selectors, int components) {
        TraitFlattener x = new TraitFlattener(2, 3, selectors, 2);
        for (int comp = 0; comp < components; comp++) {
            x.use(comp % 2, comp % 3);
        }
        return x;
    }

    private static void everySelectorOfEveryComponent() {
        TraitFlattener x = withComponents(16, 16);
        for (int sel : Make.range(0, 15)) {
            for (int comp : Make.range(0, 15)) {
                Snapshot before = Snapshot.of(x);
                check.yes("exclude(" + comp + ", " + sel + ")", x.exclude(comp, sel));
                check.changed(x, "exclude(" + comp + ", " + sel + ")", before, "componentInfo(" + comp + ", 2)");
                check.same("exclusions of " + comp, x.componentInfo(comp, EXCLUDED), (1 << sel + 1) - 1);
            }
        }
    }

    private static void noSuchComponent() {
        for (int made : Make.range(0, 16)) {
            TraitFlattener x = withComponents(3, made);
            for (int comp : Make.outside(made)) {
                check.refused(x, made + " made: exclude(" + comp + ", 0)", () -> x.exclude(comp, 0));
            }
        }
    }

    // A shift takes the number of bits modulo 32: a selector of 32 must not stand for selector 0.
    private static void noSuchSelector() {
        for (int selectors : Make.range(1, 16)) {
            TraitFlattener x = withComponents(selectors, 2);
            for (int sel : Make.outside(selectors)) {
                check.refused(x, selectors + " selectors: exclude(1, " + sel + ")", () -> x.exclude(1, sel));
            }
            for (int sel : new int[] {-32, -31, 31, 32, 33, 64}) {
                check.refused(x, selectors + " selectors: exclude(0, " + sel + ")", () -> x.exclude(0, sel));
            }
            check.yes("exclude of the last selector", x.exclude(1, selectors - 1));
            check.same("exclusions of 1", x.componentInfo(1, EXCLUDED), 1 << selectors - 1);
        }
    }

    private static void excludedAlready() {
        TraitFlattener x = withComponents(16, 2);
        for (int sel : Make.range(0, 15)) {
            check.yes("exclude(1, " + sel + ")", x.exclude(1, sel));
            Snapshot before = Snapshot.of(x);
            check.yes("exclude(1, " + sel + ") again", x.exclude(1, sel));
            check.changed(x, "exclude(1, " + sel + ") again", before);
            check.yes("exclude(1, " + sel + ") once more", x.exclude(1, sel));
            check.changed(x, "exclude(1, " + sel + ") once more", before);
        }
    }

    private static void exclusionsStay() {
        TraitFlattener x = Make.busy();
        x.exclude(1, 3);
        x.exclude(0, 1);
        x.beginBody();
        x.emit(TraitFlattener.OP_RET, 0);
        x.define(1, 1, 0);
        x.define(1, 1, TraitFlattener.NONE);
        x.define(8, 1, 0);
        x.setSuper(1, TraitFlattener.NONE);
        x.use(1, 0);
        x.alias(0, 1, 1);
        x.alias(1, 3, 3);
        x.exclude(1, 0);
        x.exclude(0, 9);
        x.run(1, 1, 1);
        check.same("exclusions of 0", x.componentInfo(0, EXCLUDED), 2);
        check.same("exclusions of 1", x.componentInfo(1, EXCLUDED), 9);
        check.same("exclusions of 2", x.componentInfo(2, EXCLUDED), 0);
        check.same("exclusions of the new one", x.componentInfo(3, EXCLUDED), 0);
    }

    private static void aliasesStay() {
        TraitFlattener x = withComponents(16, 2);
        for (int sel : Make.range(0, 15)) {
            x.alias(1, sel, 15 - sel);
        }
        for (int sel : Make.range(0, 15)) {
            x.exclude(1, sel);
            for (int newSel : Make.range(0, 15)) {
                check.same("alias of " + newSel, x.componentInfo(1, ALIAS + newSel), 15 - newSel);
                check.same("no alias of " + newSel, x.componentInfo(0, ALIAS + newSel), TraitFlattener.NONE);
            }
        }
    }
}
