/** Promise 11: what an owner provides, from its own methods and its components. */
public final class ProvidedTest {
    private static final Check check = new Check();
    private static final int NONE = TraitFlattener.NONE;
    private static final int CONFLICT = TraitFlattener.CONFLICT;

    public static void main(String[] args) {
        anOwnMethodOverrides();
        twoBodiesAreAConflict();
        theSameBodyIsNoConflict();
        aConflictComesThroughATrait();
        exclusionsTakeAway();
        anAliasAdds();
        anAliasMeetsThePlainSelector();
        anAliasPassesTheExclusions();
        anAliasReadsTheProvidedValue();
        traitsReachThroughTraits();
        componentsOfOthersDoNotCount();
        aClassDoesNotInherit();
        editsAreSeenAtOnce();
        wrongArguments();
        check.end();
    }

    /** Body n answers n; trait 0 has body 0 and trait 1 has body 1 for selector 0. */
    private static TraitFlattener start() {
        TraitFlattener x = new TraitFlattener(3, 8, 16, 4);
        Make.numberedBodies(x, 8);
        x.define(Make.trait(0), 0, 0);
        x.define(Make.trait(1), 0, 1);
        return x;
    }

    private static void provides(TraitFlattener x, String when, int owner, int sel, int want) {
        check.same(when + ": provided(" + owner + ", " + sel + ")", x.provided(owner, sel), want);
    }

    private static void anOwnMethodOverrides() {
        TraitFlattener x = start();
        x.use(0, 0);
        provides(x, "one trait", 0, 0, 0);
        provides(x, "one trait", 0, 1, NONE);
        x.define(0, 0, 5);
        provides(x, "an own method", 0, 0, 5);
        x.use(0, 1);
        provides(x, "an own method over a conflict", 0, 0, 5);
        x.define(0, 0, NONE);
        provides(x, "the own method gone", 0, 0, CONFLICT);
        x.define(0, 0, 1);
        provides(x, "an own method equal to one contribution", 0, 0, 1);
    }

    private static void twoBodiesAreAConflict() {
        TraitFlattener x = start();
        x.use(0, 0);
        x.use(0, 1);
        provides(x, "two bodies", 0, 0, CONFLICT);
        provides(x, "two bodies", 0, 1, NONE);
        x.use(0, 0);
        provides(x, "two bodies and the first again", 0, 0, CONFLICT);
        x.define(Make.trait(2), 0, 2);
        x.use(0, 2);
        provides(x, "three bodies", 0, 0, CONFLICT);
        x.use(0, 3);
        provides(x, "an empty trait beside", 0, 0, CONFLICT);
    }

    private static void theSameBodyIsNoConflict() {
        TraitFlattener x = start();
        x.define(Make.trait(1), 0, 0);
        x.use(0, 0);
        x.use(0, 1);
        x.use(0, 0);
        x.use(0, 5);
        provides(x, "one body three times", 0, 0, 0);
        TraitFlattener y = start();
        y.define(Make.trait(1), 0, NONE);
        y.use(Make.trait(1), 0);
        y.use(Make.trait(2), 0);
        y.use(Make.trait(3), 1);
        y.use(Make.trait(3), 2);
        provides(y, "a diamond", Make.trait(3), 0, 0);
    }

    private static void aConflictComesThroughATrait() {
        TraitFlattener x = start();
        x.use(Make.trait(2), 0);
        x.use(Make.trait(2), 1);
        x.use(Make.trait(3), 2);
        int comp = x.use(0, 3);
        provides(x, "a conflict below", Make.trait(3), 0, CONFLICT);
        provides(x, "a conflict below", 0, 0, CONFLICT);
        x.use(0, 2);
        provides(x, "two conflicts below", 0, 0, CONFLICT);
        x.use(0, 0);
        provides(x, "a conflict and a body", 0, 0, CONFLICT);
        x.alias(comp, 1, 0);
        provides(x, "an aliased conflict", 0, 1, CONFLICT);
        x.define(Make.trait(2), 0, 0);
        provides(x, "resolved in the trait", Make.trait(3), 0, 0);
        provides(x, "resolved in the trait", 0, 0, 0);
        provides(x, "resolved in the trait", 0, 1, 0);
    }

    private static void exclusionsTakeAway() {
        TraitFlattener x = start();
        x.define(Make.trait(1), 1, 2);
        int first = x.use(0, 0);
        int second = x.use(0, 1);
        x.exclude(second, 0);
        provides(x, "one excluded", 0, 0, 0);
        provides(x, "one excluded", 0, 1, 2);
        provides(x, "the trait itself", Make.trait(1), 0, 1);
        x.exclude(first, 0);
        provides(x, "both excluded", 0, 0, NONE);
        x.use(0, 1);
        provides(x, "used again without exclusion", 0, 0, 1);
        TraitFlattener y = start();
        y.define(Make.trait(0), 15, 3);
        int comp = y.use(Make.trait(4), 0);
        y.exclude(comp, 15);
        y.define(Make.trait(4), 15, 4);
        provides(y, "an own method in place of an excluded one", Make.trait(4), 15, 4);
        provides(y, "beside it", Make.trait(4), 0, 0);
    }

    private static void anAliasAdds() {
        TraitFlattener x = start();
        int comp = x.use(0, 0);
        x.alias(comp, 3, 0);
        x.alias(comp, 4, 0);
        x.alias(comp, 5, 9);
        provides(x, "aliased", 0, 0, 0);
        provides(x, "aliased", 0, 3, 0);
        provides(x, "aliased", 0, 4, 0);
        provides(x, "an alias of nothing", 0, 5, NONE);
        provides(x, "aliases are not followed on", 0, 9, NONE);
        x.alias(comp, 6, 3);
        provides(x, "an alias of an alias reads the trait", 0, 6, NONE);
        provides(x, "the trait itself", Make.trait(0), 3, NONE);
        x.define(0, 3, 7);
        provides(x, "an own method over an alias", 0, 3, 7);
    }

    private static void anAliasMeetsThePlainSelector() {
        TraitFlattener x = start();
        x.define(Make.trait(0), 1, 2);
        int comp = x.use(0, 0);
        x.alias(comp, 1, 0);
        provides(x, "alias and plain selector differ", 0, 1, CONFLICT);
        x.define(Make.trait(0), 1, 0);
        provides(x, "alias and plain selector agree", 0, 1, 0);
        x.define(Make.trait(0), 1, 2);
        x.exclude(comp, 1);
        provides(x, "the plain selector excluded", 0, 1, 0);
        x.alias(comp, 2, 2);
        provides(x, "an alias to itself of nothing", 0, 2, NONE);
        x.alias(comp, 0, 0);
        provides(x, "an alias to itself", 0, 0, 0);
        x.exclude(comp, 0);
        provides(x, "an alias to itself, excluded", 0, 0, 0);
    }

    private static void anAliasPassesTheExclusions() {
        TraitFlattener x = start();
        int comp = x.use(0, 0);
        x.exclude(comp, 0);
        x.alias(comp, 7, 0);
        provides(x, "the old selector excluded", 0, 0, NONE);
        provides(x, "the old selector excluded", 0, 7, 0);
        x.exclude(comp, 7);
        provides(x, "the new selector excluded too", 0, 7, 0);
        TraitFlattener y = start();
        int swap = y.use(0, 0);
        y.define(Make.trait(0), 1, 6);
        y.exclude(swap, 0);
        y.exclude(swap, 1);
        y.alias(swap, 0, 1);
        y.alias(swap, 1, 0);
        provides(y, "two selectors swapped", 0, 0, 6);
        provides(y, "two selectors swapped", 0, 1, 0);
    }

    private static void anAliasReadsTheProvidedValue() {
        TraitFlattener x = start();
        int inner = x.use(Make.trait(3), 0);
        x.alias(inner, 2, 0);
        int outer = x.use(1, 3);
        x.alias(outer, 5, 2);
        provides(x, "an alias of an alias below", 1, 5, 0);
        x.define(Make.trait(3), 2, 4);
        provides(x, "overridden in between", 1, 5, 4);
        x.use(1, 1);
        provides(x, "another trait does not touch it", 1, 5, 4);
    }

    private static void traitsReachThroughTraits() {
        TraitFlattener x = start();
        x.define(Make.trait(1), 0, NONE);
        for (int t = 7; t >= 1; t--) {
            x.use(Make.trait(t), t - 1);
        }
        x.use(2, 7);
        provides(x, "a chain of eight traits", 2, 0, 0);
        x.define(Make.trait(0), 0, 5);
        provides(x, "a chain of eight traits, edited", 2, 0, 5);
        x.define(Make.trait(0), 0, NONE);
        provides(x, "a chain of eight traits, emptied", 2, 0, NONE);
        x.define(Make.trait(4), 0, 6);
        provides(x, "the middle", 2, 0, 6);
        provides(x, "below the middle", Make.trait(3), 0, NONE);
    }

    private static void componentsOfOthersDoNotCount() {
        TraitFlattener x = start();
        int comp = x.use(1, 0);
        x.use(2, 1);
        x.alias(comp, 3, 0);
        provides(x, "no component", 0, 0, NONE);
        provides(x, "its own component", 1, 0, 0);
        provides(x, "its own component", 2, 0, 1);
        provides(x, "its own component", 2, 3, NONE);
    }

    private static void aClassDoesNotInherit() {
        TraitFlattener x = start();
        x.define(0, 2, 5);
        x.setSuper(1, 0);
        provides(x, "before inheritance", 1, 2, NONE);
    }

    private static void editsAreSeenAtOnce() {
        TraitFlattener x = start();
        int first = x.use(Make.trait(2), 0);
        int outer = x.use(0, 2);
        provides(x, "one trait below", 0, 0, 0);
        int second = x.use(Make.trait(2), 1);
        provides(x, "a later use below", 0, 0, CONFLICT);
        x.exclude(first, 0);
        provides(x, "one excluded below", 0, 0, 1);
        x.exclude(second, 0);
        provides(x, "both excluded below", 0, 0, NONE);
        x.alias(first, 8, 0);
        provides(x, "aliased below", Make.trait(2), 8, 0);
        provides(x, "aliased below", 0, 8, 0);
        x.alias(second, 8, 0);
        provides(x, "aliased below twice", 0, 8, CONFLICT);
        x.define(Make.trait(1), 0, 0);
        provides(x, "made equal below", 0, 8, 0);
        x.exclude(outer, 8);
        provides(x, "excluded above", 0, 8, NONE);
    }

    private static void wrongArguments() {
        TraitFlattener x = new TraitFlattener(3, 2, 4, 4);
        for (int owner = -3; owner <= 20; owner++) {
            for (int sel = -3; sel <= 20; sel++) {
                boolean fine = (owner >= 0 && owner < 3 || owner == 8 || owner == 9) && sel >= 0 && sel < 4;
                check.same("provided(" + owner + ", " + sel + ")", x.provided(owner, sel),
                        fine ? NONE : TraitFlattener.BAD);
            }
        }
        for (int far : Make.FAR) {
            check.same("provided(" + far + ", 0)", x.provided(far, 0), TraitFlattener.BAD);
            check.same("provided(0, " + far + ")", x.provided(0, far), TraitFlattener.BAD);
        }
    }
}
