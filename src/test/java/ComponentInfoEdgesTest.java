/** Promise 10: the sentences that name a boundary case, each with a test of its own. */
public final class ComponentInfoEdgesTest {
    private static final Check check = new Check();
    private static final int NONE = TraitFlattener.NONE;
    private static final int BAD = TraitFlattener.BAD;

    public static void main(String[] args) {
        check.holds("FIELD_OWNER: its owner id.", ComponentInfoEdgesTest::everyOwner);
        check.holds("FIELD_TRAIT: its trait number.", ComponentInfoEdgesTest::everyTrait);
        check.holds("FIELD_EXCLUDED: the sum of (1 << s) over its excluded selectors s; this is 0 if none are"
                + " excluded.", ComponentInfoEdgesTest::theSumOfExclusions);
        check.holds("FIELD_ALIAS + s, for s in 0..nS-1: the old selector that s is aliased to, or NONE.",
                ComponentInfoEdgesTest::theAliasOrNone);
        check.holds("It answers BAD if comp does not exist, or if field is none of these.",
                ComponentInfoEdgesTest::noSuchComponent);
        check.holds("This includes FIELD_ALIAS + s for s outside 0..nS-1, and every other field number.",
                ComponentInfoEdgesTest::noSuchField);
        check.end();
    }

    private static void everyOwner() {
        TraitFlattener x = new TraitFlattener(8, 8, 1, 1);
        int made = 0;
        for (int owner : Make.range(0, 15)) {
            if (owner != TraitFlattener.TRAIT_BASE) {
                x.use(owner, 0);
                check.same("owner of " + made, x.componentInfo(made, TraitFlattener.FIELD_OWNER), owner);
                made++;
            }
        }
    }

    private static void everyTrait() {
        TraitFlattener x = new TraitFlattener(8, 8, 1, 1);
        for (int trait : Make.range(0, 7)) {
            x.use(0, trait);
            check.same("trait of " + trait, x.componentInfo(trait, TraitFlattener.FIELD_TRAIT), trait);
        }
        for (int trait : Make.range(0, 6)) {
            x.use(15, trait);
            check.same("trait of " + (8 + trait), x.componentInfo(8 + trait, TraitFlattener.FIELD_TRAIT), trait);
        }
    }

    private static void theSumOfExclusions() {
        for (int selectors : Make.range(1, 16)) {
            TraitFlattener x = new TraitFlattener(1, 1, selectors, 1);
            x.use(0, 0);
            x.use(0, 0);
            x.use(0, 0);
            check.same("none excluded", x.componentInfo(1, TraitFlattener.FIELD_EXCLUDED), 0);
            int sum = 0;
            for (int sel = selectors - 1; sel >= 0; sel--) {
                x.exclude(1, sel);
                sum += 1 << sel;
                check.same("down to " + sel, x.componentInfo(1, TraitFlattener.FIELD_EXCLUDED), sum);
            }
            x.exclude(1, 0);
            x.exclude(1, selectors);
            check.same("all excluded", x.componentInfo(1, TraitFlattener.FIELD_EXCLUDED), (1 << selectors) - 1);
            check.same("none excluded before it", x.componentInfo(0, TraitFlattener.FIELD_EXCLUDED), 0);
            check.same("none excluded after it", x.componentInfo(2, TraitFlattener.FIELD_EXCLUDED), 0);
        }
    }

    private static void theAliasOrNone() {
        for (int selectors : Make.range(1, 16)) {
            TraitFlattener x = new TraitFlattener(1, 1, selectors, 1);
            x.use(0, 0);
            x.use(0, 0);
            for (int sel : Make.range(0, selectors - 1)) {
                int field = TraitFlattener.FIELD_ALIAS + sel;
                check.same("no alias of " + sel, x.componentInfo(1, field), NONE);
                x.alias(1, sel, selectors - 1 - sel);
                check.same("alias of " + sel, x.componentInfo(1, field), selectors - 1 - sel);
                check.same("no alias in the other component", x.componentInfo(0, field), NONE);
            }
        }
    }

    private static void noSuchComponent() {
        for (int made : Make.range(0, 16)) {
            TraitFlattener x = new TraitFlattener(2, 2, 16, 1);
            for (int i = 0; i < made; i++) {
                x.use(i % 2, 1);
            }
            for (int comp : Make.outside(made)) {
                for (int field : Make.range(-1, 33)) {
                    String call = made + " made: componentInfo(" + comp + ", " + field + ")";
                    check.same(call, x.componentInfo(comp, field), BAD);
                }
            }
        }
    }

    private static void noSuchField() {
        for (int selectors : Make.range(1, 16)) {
            TraitFlattener x = new TraitFlattener(2, 2, selectors, 1);
            for (int i = 0; i < 16; i++) {
                x.use(i % 2, 1);
            }
            for (int comp : new int[] {0, 7, 15}) {
                for (int field : Make.range(-300, 300)) {
                    boolean known = field >= 0 && field <= 2 || field >= 16 && field < 16 + selectors;
                    if (!known) {
                        String call = selectors + " selectors: componentInfo(" + comp + ", " + field + ")";
                        check.same(call, x.componentInfo(comp, field), BAD);
                    }
                }
                for (int field : Make.outside(300)) {
                    check.same("componentInfo(" + comp + ", " + field + ")", x.componentInfo(comp, field), BAD);
                    int far = 16 + field;
                    if (far < 0 || far >= 300) {
                        check.same("componentInfo(" + comp + ", " + far + ")", x.componentInfo(comp, far), BAD);
                    }
                }
            }
        }
    }
}
