/** Promises 7, 8, 9 and 10: use, exclude, alias and componentInfo. */
public final class ComponentsTest {
    private static final Check check = new Check();

    public static void main(String[] args) {
        everyUse();
        componentsAreNumberedUpToTheLimit();
        useMakesAPlainComponent();
        exclusions();
        wrongExclusions();
        aliases();
        anAliasStays();
        wrongAliases();
        everyField();
        farNumbers();
        check.end();
    }

    private static void everyUse() {
        for (int owner = -2; owner <= 17; owner++) {
            for (int trait = -2; trait <= 17; trait++) {
                TraitFlattener x = new TraitFlattener(3, 5, 2, 2);
                int o = owner;
                int t = trait;
                boolean byClass = owner >= 0 && owner < 3 && trait >= 0 && trait < 5;
                boolean byTrait = owner >= 8 && owner < 13 && trait >= 0 && trait < owner - 8;
                String call = "use(" + owner + ", " + trait + ")";
                if (byClass || byTrait) {
                    check.same(call, x.use(owner, trait), 0);
                    check.same("owner after " + call, x.componentInfo(0, TraitFlattener.FIELD_OWNER), owner);
                    check.same("trait after " + call, x.componentInfo(0, TraitFlattener.FIELD_TRAIT), trait);
                } else {
                    check.refused(x, call, () -> x.use(o, t), TraitFlattener.BAD);
                }
            }
        }
    }

    private static void componentsAreNumberedUpToTheLimit() {
        TraitFlattener x = new TraitFlattener(2, 3, 2, 2);
        for (int n = 0; n < 16; n++) {
            check.same("componentInfo(" + n + ", 0) before", x.componentInfo(n, 0), TraitFlattener.BAD);
            check.same("use number " + n, x.use(n % 2, n % 3), n);
        }
        check.refused(x, "the 17th use(0, 0)", () -> x.use(0, 0), TraitFlattener.BAD);
        check.refused(x, "the 17th use(10, 1)", () -> x.use(10, 1), TraitFlattener.BAD);
        for (int n = 0; n < 16; n++) {
            check.same("componentInfo(" + n + ", 0)", x.componentInfo(n, 0), n % 2);
            check.same("componentInfo(" + n + ", 1)", x.componentInfo(n, 1), n % 3);
        }
        check.same("componentInfo(16, 0)", x.componentInfo(16, 0), TraitFlattener.BAD);
    }

    private static void useMakesAPlainComponent() {
        TraitFlattener x = new TraitFlattener(1, 1, 2, 2);
        Snapshot before = Snapshot.of(x);
        check.same("use(0, 0)", x.use(0, 0), 0);
        check.changed(x, "use(0, 0)", before, "componentInfo(0, 0)", "componentInfo(0, 1)",
                "componentInfo(0, 2)", "componentInfo(0, 16)", "componentInfo(0, 17)");
        check.same("no exclusions", x.componentInfo(0, TraitFlattener.FIELD_EXCLUDED), 0);
        check.same("no alias of 0", x.componentInfo(0, TraitFlattener.FIELD_ALIAS), TraitFlattener.NONE);
        check.same("no alias of 1", x.componentInfo(0, TraitFlattener.FIELD_ALIAS + 1), TraitFlattener.NONE);
        check.same("the same trait again", x.use(0, 0), 1);
        check.same("trait of the second", x.componentInfo(1, TraitFlattener.FIELD_TRAIT), 0);
    }

    private static void exclusions() {
        TraitFlattener x = new TraitFlattener(1, 1, 16, 2);
        x.use(0, 0);
        x.use(0, 0);
        int set = 0;
        for (int sel : new int[] {3, 0, 15, 3, 7, 15}) {
            Snapshot before = Snapshot.of(x);
            boolean fresh = (set & 1 << sel) == 0;
            check.yes("exclude(1, " + sel + ")", x.exclude(1, sel));
            set |= 1 << sel;
            if (fresh) {
                check.changed(x, "exclude(1, " + sel + ")", before, "componentInfo(1, 2)");
            } else {
                check.changed(x, "exclude(1, " + sel + ") again", before);
            }
            check.same("componentInfo(1, 2)", x.componentInfo(1, TraitFlattener.FIELD_EXCLUDED), set);
        }
        for (int sel = 0; sel < 16; sel++) {
            x.exclude(0, sel);
        }
        check.same("all excluded", x.componentInfo(0, TraitFlattener.FIELD_EXCLUDED), 65535);
    }

    private static void wrongExclusions() {
        TraitFlattener x = Make.busy();
        for (int comp : new int[] {-2, -1, 3, 4, 15, 16}) {
            check.refused(x, "exclude(" + comp + ", 0)", () -> x.exclude(comp, 0));
        }
        for (int sel : new int[] {-2, -1, 4, 5, 15, 16, 31, 32, 33}) {
            check.refused(x, "exclude(0, " + sel + ")", () -> x.exclude(0, sel));
        }
    }

    private static void aliases() {
        TraitFlattener x = new TraitFlattener(1, 1, 16, 2);
        x.use(0, 0);
        x.use(0, 0);
        for (int sel = 0; sel < 16; sel++) {
            Snapshot before = Snapshot.of(x);
            check.yes("alias(1, " + sel + ", 5)", x.alias(1, sel, 5));
            check.changed(x, "alias(1, " + sel + ", 5)", before, "componentInfo(1, " + (16 + sel) + ")");
            check.same("alias of " + sel, x.componentInfo(1, TraitFlattener.FIELD_ALIAS + sel), 5);
        }
        for (int sel = 0; sel < 16; sel++) {
            check.yes("alias(0, " + sel + ", " + (15 - sel) + ")", x.alias(0, sel, 15 - sel));
        }
        for (int sel = 0; sel < 16; sel++) {
            check.same("alias of " + sel, x.componentInfo(0, TraitFlattener.FIELD_ALIAS + sel), 15 - sel);
        }
    }

    private static void anAliasStays() {
        TraitFlattener x = new TraitFlattener(1, 1, 3, 2);
        x.use(0, 0);
        x.use(0, 0);
        check.yes("alias(0, 1, 0)", x.alias(0, 1, 0));
        check.refused(x, "alias(0, 1, 1)", () -> x.alias(0, 1, 1));
        check.refused(x, "alias(0, 1, 2)", () -> x.alias(0, 1, 2));
        Snapshot before = Snapshot.of(x);
        check.yes("alias(0, 1, 0) again", x.alias(0, 1, 0));
        check.changed(x, "alias(0, 1, 0) again", before);
        check.yes("alias to itself", x.alias(0, 2, 2));
        check.same("alias of 2", x.componentInfo(0, TraitFlattener.FIELD_ALIAS + 2), 2);
        check.yes("another component is free", x.alias(1, 1, 2));
        x.exclude(0, 1);
        x.exclude(0, 0);
        check.same("an exclusion leaves the alias", x.componentInfo(0, TraitFlattener.FIELD_ALIAS + 1), 0);
        x.alias(0, 0, 0);
        check.same("an alias leaves the exclusions", x.componentInfo(0, TraitFlattener.FIELD_EXCLUDED), 3);
    }

    private static void wrongAliases() {
        TraitFlattener x = Make.busy();
        for (int comp : new int[] {-2, -1, 3, 4, 15, 16}) {
            check.refused(x, "alias(" + comp + ", 0, 0)", () -> x.alias(comp, 0, 0));
        }
        for (int sel : new int[] {-2, -1, 4, 5, 15, 16, 17}) {
            check.refused(x, "alias(0, " + sel + ", 0)", () -> x.alias(0, sel, 0));
            check.refused(x, "alias(0, 0, " + sel + ")", () -> x.alias(0, 0, sel));
            check.refused(x, "alias(1, 2, " + sel + ")", () -> x.alias(1, 2, sel));
        }
    }

    private static void everyField() {
        for (int selectors : new int[] {1, 3, 16}) {
            TraitFlattener x = new TraitFlattener(2, 3, selectors, 2);
            x.use(0, 0);
            x.use(Make.trait(2), 1);
            x.exclude(1, 0);
            x.alias(1, selectors - 1, 0);
            for (int field = -40; field <= 80; field++) {
                int want = TraitFlattener.BAD;
                if (field == 0) {
                    want = 10;
                } else if (field == 1 || field == 2) {
                    want = 1;
                } else if (field >= 16 && field < 16 + selectors) {
                    want = field == 15 + selectors ? 0 : TraitFlattener.NONE;
                }
                check.same("componentInfo(1, " + field + ")", x.componentInfo(1, field), want);
            }
            for (int comp : new int[] {-2, -1, 2, 3, 15, 16}) {
                for (int field : new int[] {0, 1, 2, 3, 16}) {
                    check.same("componentInfo(" + comp + ", " + field + ")",
                            x.componentInfo(comp, field), TraitFlattener.BAD);
                }
            }
        }
    }

    private static void farNumbers() {
        TraitFlattener x = Make.busy();
        for (int far : Make.FAR) {
            check.refused(x, "use(" + far + ", 0)", () -> x.use(far, 0), TraitFlattener.BAD);
            check.refused(x, "use(0, " + far + ")", () -> x.use(0, far), TraitFlattener.BAD);
            check.refused(x, "use(10, " + far + ")", () -> x.use(10, far), TraitFlattener.BAD);
            check.refused(x, "exclude(" + far + ", 0)", () -> x.exclude(far, 0));
            check.refused(x, "exclude(0, " + far + ")", () -> x.exclude(0, far));
            check.refused(x, "alias(" + far + ", 0, 0)", () -> x.alias(far, 0, 0));
            check.refused(x, "alias(0, " + far + ", 0)", () -> x.alias(0, far, 0));
            check.refused(x, "alias(0, 0, " + far + ")", () -> x.alias(0, 0, far));
            check.same("componentInfo(" + far + ", 0)", x.componentInfo(far, 0), TraitFlattener.BAD);
            check.same("componentInfo(0, " + far + ")", x.componentInfo(0, far), TraitFlattener.BAD);
        }
    }
}
