import java.util.Arrays;

/** Promise 11: the sentences that name a boundary case, each with a test of its own. */
public final class ProvidedEdgesTest {
    private static final Check check = new Check();
    private static final int NONE = TraitFlattener.NONE;
    private static final int CONFLICT = TraitFlattener.CONFLICT;
    private static final int BAD = TraitFlattener.BAD;

    public static void main(String[] args) {
        check.holds("It answers BAD if owner is not valid or sel is not in 0..nS-1.",
                ProvidedEdgesTest::wrongArguments);
        check.holds("For a class this is its own dictionary before inheritance.",
                ProvidedEdgesTest::beforeInheritance);
        check.holds("P(o)[s] is always computed from the current state as follows.",
                ProvidedEdgesTest::theCurrentState);
        check.holds("If own(o)[s] != NONE, then P(o)[s] = own(o)[s].", ProvidedEdgesTest::anOwnMethod);
        check.holds("Otherwise, collect CONTRIBUTIONS from every component k whose owner is o.",
                ProvidedEdgesTest::everyComponentOfTheOwner);
        check.holds("If s is not excluded in k and P(u)[s] != NONE, then k contributes the value P(u)[s].",
                ProvidedEdgesTest::aPlainContribution);
        check.holds("If k aliases new selector s to old selector r and P(u)[r] != NONE, then k contributes the value"
                + " P(u)[r].", ProvidedEdgesTest::anAliasContribution);
        check.holds("The exclusions of k do not apply to r.", ProvidedEdgesTest::anExcludedOldSelector);
        check.holds("One component may thus contribute up to two values.", ProvidedEdgesTest::twoFromOne);
        check.holds("With no contribution at all, P(o)[s] = NONE.", ProvidedEdgesTest::noContribution);
        check.holds("If all contributions equal one value v, then P(o)[s] = v.", ProvidedEdgesTest::oneValue);
        check.holds("Here v may itself be CONFLICT.", ProvidedEdgesTest::theOneValueIsAConflict);
        check.holds("Otherwise P(o)[s] = CONFLICT.", ProvidedEdgesTest::severalValues);
        check.holds("So an own method overrides any contribution and resolves a conflict, and the same body coming"
                + " from several components is no conflict.", ProvidedEdgesTest::overridingAndAgreeing);
        check.holds("The definition is well founded because a trait uses only traits with smaller numbers.",
                ProvidedEdgesTest::theLongestChainOfTraits);
        check.end();
    }

    /** Greatest sizes, 16 bodies, and trait t has body t for selector 0 and body 8 + t for selector 15. */
    private static TraitFlattener start() {
        TraitFlattener x = new TraitFlattener(8, 8, 16, 4);
        Make.numberedBodies(x, 16);
        for (int trait : Make.range(0, 7)) {
            x.define(Make.trait(trait), 0, trait);
            x.define(Make.trait(trait), 15, 8 + trait);
        }
        return x;
    }

    private static void provides(TraitFlattener x, String when, int owner, int sel, int want) {
        check.same(when + ": provided(" + owner + ", " + sel + ")", x.provided(owner, sel), want);
    }

    private static void wrongArguments() {
        int[][] sizes = {{1, 1, 1}, {3, 5, 7}, {8, 1, 16}, {1, 8, 16}, {8, 8, 16}};
        for (int[] size : sizes) {
            TraitFlattener x = new TraitFlattener(size[0], size[1], size[2], 4);
            for (int owner : Make.outside(size[0])) {
                provides(x, "far", owner, 0, owner >= 8 && owner < 8 + size[1] ? NONE : BAD);
            }
            provides(x, "after the last trait", 8 + size[1], 0, BAD);
            provides(x, "the last trait", 7 + size[1], size[2] - 1, NONE);
            for (int sel : Make.outside(size[2])) {
                provides(x, "far", 0, sel, BAD);
                provides(x, "far", 8, sel, BAD);
                provides(x, "far", sel, sel, BAD);
            }
        }
    }

    private static void beforeInheritance() {
        TraitFlattener x = start();
        for (int cls : Make.range(1, 7)) {
            x.setSuper(cls, cls - 1);
        }
        x.define(0, 0, 0);
        x.use(0, 7);
        for (int cls : Make.range(1, 7)) {
            provides(x, "an own method above", cls, 0, NONE);
            provides(x, "a trait method above", cls, 15, NONE);
        }
        x.use(7, 3);
        provides(x, "its own trait", 7, 15, 11);
        provides(x, "below nothing", 6, 15, NONE);
    }

    private static void theCurrentState() {
        TraitFlattener x = start();
        int inner = x.use(Make.trait(7), 6);
        x.define(Make.trait(7), 0, NONE);
        int outer = x.use(7, 7);
        provides(x, "after use", 7, 0, 6);
        x.define(Make.trait(6), 0, 0);
        provides(x, "after define below", 7, 0, 0);
        x.alias(inner, 0, 15);
        provides(x, "after alias below", 7, 0, CONFLICT);
        x.exclude(inner, 0);
        provides(x, "after exclude below", 7, 0, 14);
        x.alias(outer, 1, 0);
        provides(x, "after alias", 7, 1, 14);
        x.exclude(outer, 0);
        provides(x, "after exclude", 7, 0, NONE);
        x.define(Make.trait(6), 15, NONE);
        provides(x, "after a removal below", 7, 1, NONE);
        x.define(7, 1, 0);
        provides(x, "after define", 7, 1, 0);
        x.define(7, 1, NONE);
        provides(x, "after a removal", 7, 1, NONE);
    }

    // Body 0 counts as much as any other: 0 is not NONE.
    private static void anOwnMethod() {
        for (int owner : new int[] {0, 7, 8, 15}) {
            for (int sel : new int[] {0, 1, 14, 15}) {
                TraitFlattener x = start();
                for (int body : Make.range(0, 15)) {
                    x.define(owner, sel, body);
                    provides(x, "an own method", owner, sel, body);
                }
            }
        }
    }

    // The components of the owner stand first, last and between those of others.
    private static void everyComponentOfTheOwner() {
        for (int place : Make.range(0, 15)) {
            TraitFlattener x = start();
            for (int comp : Make.range(0, 15)) {
                x.use(comp == place ? 5 : comp % 4, comp == place ? 3 : 7);
            }
            provides(x, "component " + place, 5, 0, 3);
            provides(x, "component " + place, 5, 15, 11);
            provides(x, "the others", 3, 0, 7);
            provides(x, "no component", 6, 0, NONE);
        }
        for (int place : Make.range(0, 15)) {
            TraitFlattener x = start();
            for (int comp : Make.range(0, 15)) {
                x.use(5, comp == place ? 3 : 7);
            }
            provides(x, "component " + place + " differs", 5, 0, CONFLICT);
            x.exclude(place, 0);
            provides(x, "component " + place + " excludes", 5, 0, 7);
        }
    }

    private static void aPlainContribution() {
        for (int sel : Make.range(0, 15)) {
            TraitFlattener x = start();
            x.define(Make.trait(7), sel, 0);
            int comp = x.use(7, 7);
            provides(x, "contributed", 7, sel, 0);
            for (int other : Make.range(0, 15)) {
                if (other != sel) {
                    x.exclude(comp, other);
                }
            }
            provides(x, "all others excluded", 7, sel, 0);
            x.exclude(comp, sel);
            provides(x, "excluded", 7, sel, NONE);
            provides(x, "the trait itself", Make.trait(7), sel, 0);
        }
    }

    private static void anAliasContribution() {
        for (int oldSel : Make.range(0, 15)) {
            for (int newSel : Make.range(0, 15)) {
                TraitFlattener x = new TraitFlattener(1, 1, 16, 4);
                Make.numberedBodies(x, 2);
                int comp = x.use(0, 0);
                x.alias(comp, newSel, oldSel);
                provides(x, "an alias of nothing", 0, newSel, NONE);
                x.define(8, oldSel, 0);
                provides(x, "an alias of " + oldSel, 0, newSel, 0);
                provides(x, "the old selector", 0, oldSel, 0);
                provides(x, "the trait", 8, newSel, newSel == oldSel ? 0 : NONE);
            }
        }
    }

    private static void anExcludedOldSelector() {
        TraitFlattener x = start();
        int comp = x.use(0, 0);
        for (int sel : Make.range(0, 15)) {
            x.exclude(comp, sel);
        }
        x.alias(comp, 1, 0);
        x.alias(comp, 14, 15);
        x.alias(comp, 0, 15);
        x.alias(comp, 15, 15);
        provides(x, "all excluded", 0, 1, 0);
        provides(x, "all excluded", 0, 14, 8);
        provides(x, "all excluded", 0, 0, 8);
        provides(x, "all excluded, an alias of itself", 0, 15, 8);
        provides(x, "all excluded, no alias", 0, 2, NONE);
    }

    private static void twoFromOne() {
        TraitFlattener x = start();
        int comp = x.use(0, 0);
        x.alias(comp, 0, 15);
        provides(x, "two values", 0, 0, CONFLICT);
        x.define(8, 15, 0);
        provides(x, "the same value twice", 0, 0, 0);
        x.define(8, 15, NONE);
        provides(x, "the plain value alone", 0, 0, 0);
        x.define(8, 15, 9);
        x.define(8, 0, NONE);
        provides(x, "the aliased value alone", 0, 0, 9);
        x.define(8, 15, NONE);
        provides(x, "neither", 0, 0, NONE);
    }

    private static void noContribution() {
        TraitFlattener x = start();
        provides(x, "no component", 0, 0, NONE);
        int comp = x.use(0, 0);
        provides(x, "a trait without it", 0, 1, NONE);
        x.alias(comp, 2, 3);
        provides(x, "an alias of nothing", 0, 2, NONE);
        x.exclude(comp, 0);
        provides(x, "excluded", 0, 0, NONE);
        x.exclude(comp, 1);
        provides(x, "nothing excluded", 0, 1, NONE);
        for (int i = 1; i < 16; i++) {
            x.use(0, i % 8);
            provides(x, i + " components without it", 0, 7, NONE);
        }
    }

    private static void oneValue() {
        for (int body : new int[] {0, 1, 15}) {
            TraitFlattener x = new TraitFlattener(1, 8, 2, 4);
            Make.numberedBodies(x, 16);
            for (int trait : Make.range(0, 7)) {
                x.define(Make.trait(trait), 0, body);
            }
            for (int comp : Make.range(0, 15)) {
                x.use(0, comp % 8);
                x.alias(comp, 1, 0);
                x.alias(comp, 0, 0);
                provides(x, (comp + 1) + " components agree", 0, 0, body);
                provides(x, (comp + 1) + " aliases agree", 0, 1, body);
            }
        }
    }

    private static void theOneValueIsAConflict() {
        TraitFlattener x = start();
        x.define(Make.trait(5), 0, NONE);
        x.use(Make.trait(5), 0);
        x.use(Make.trait(5), 1);
        provides(x, "a conflict", Make.trait(5), 0, CONFLICT);
        int comp = x.use(0, 5);
        provides(x, "one conflict", 0, 0, CONFLICT);
        x.use(0, 5);
        provides(x, "the same conflict twice", 0, 0, CONFLICT);
        x.exclude(comp, 1);
        x.alias(comp, 1, 0);
        provides(x, "an aliased conflict", 0, 1, CONFLICT);
        x.exclude(comp, 0);
        provides(x, "the conflict from the second component", 0, 0, CONFLICT);
        x.define(Make.trait(5), 0, 4);
        provides(x, "resolved below", 0, 0, 4);
        provides(x, "resolved below, aliased", 0, 1, 4);
    }

    // A conflict comes first, between and last, and an agreeing value after a conflict does not mend it.
    private static void severalValues() {
        int[][] orders = {{0, 1}, {1, 0}, {0, 1, 0}, {0, 0, 1}, {1, 0, 0}, {0, 1, 2}, {0, 1, 1, 0}, {5, 0}, {0, 5},
            {5, 0, 0}, {0, 5, 0}, {5, 5, 0}, {7, 7, 7, 7, 7, 7, 7, 6}};
        for (int[] order : orders) {
            TraitFlattener x = start();
            x.define(Make.trait(5), 0, NONE);
            x.use(Make.trait(5), 0);
            x.use(Make.trait(5), 1);
            for (int trait : order) {
                x.use(3, trait);
            }
            provides(x, "traits " + Arrays.toString(order), 3, 0, CONFLICT);
        }
    }

    private static void overridingAndAgreeing() {
        TraitFlattener x = start();
        x.use(0, 1);
        x.define(0, 0, 0);
        provides(x, "over one contribution", 0, 0, 0);
        x.use(0, 2);
        provides(x, "over a conflict", 0, 0, 0);
        x.define(0, 0, NONE);
        provides(x, "the conflict again", 0, 0, CONFLICT);
        x.define(Make.trait(2), 0, 1);
        provides(x, "the same body from two traits", 0, 0, 1);
        x.use(0, 1);
        provides(x, "the same trait again", 0, 0, 1);
        x.define(Make.trait(7), 0, NONE);
        x.use(Make.trait(7), 1);
        x.use(Make.trait(7), 2);
        x.use(0, 7);
        provides(x, "by two ways through traits", 0, 0, 1);
    }

    private static void theLongestChainOfTraits() {
        TraitFlattener x = start();
        for (int trait : Make.range(1, 7)) {
            x.define(Make.trait(trait), 0, NONE);
        }
        for (int trait : Make.range(1, 7)) {
            int comp = x.use(Make.trait(8 - trait), 7 - trait);
            x.exclude(comp, 15);
            x.alias(comp, 8 - trait, 7 - trait);
        }
        x.use(7, 7);
        provides(x, "through eight traits", 7, 0, 0);
        provides(x, "aliased at every trait", 7, 7, 0);
        provides(x, "not aliased so far", Make.trait(6), 7, NONE);
        x.define(8, 0, 9);
        provides(x, "edited at the far end", 7, 0, 9);
        provides(x, "edited at the far end, aliased", 7, 7, 9);
    }
}
