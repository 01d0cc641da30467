/** Promise 7: the sentences that name a boundary case, each with a test of its own. */
public final class UseEdgesTest {
    private static final Check check = new Check();
    private static final int NONE = TraitFlattener.NONE;
    private static final int BAD = TraitFlattener.BAD;
    private static final int OWNER = TraitFlattener.FIELD_OWNER;
    private static final int TRAIT = TraitFlattener.FIELD_TRAIT;

    public static void main(String[] args) {
        check.holds("The trait argument is a trait number in 0..nT-1, not an owner id.",
                UseEdgesTest::theTraitIsNoOwnerId);
        check.holds("The new component has no exclusions and no aliases.", UseEdgesTest::aNewComponentIsPlain);
        check.holds("owner is not valid.", UseEdgesTest::noSuchOwner);
        check.holds("trait is not in 0..nT-1.", UseEdgesTest::noSuchTrait);
        check.holds("owner is TRAIT_BASE + u and trait >= u.", UseEdgesTest::noTraitThatIsNotSmaller);
        check.holds("A trait may only use traits with a smaller number, so trait 0 can use no trait.",
                UseEdgesTest::traitZeroUsesNone);
        check.holds("MAX_COMPONENTS (16) components already exist.", UseEdgesTest::theSeventeenthIsRefused);
        check.holds("Otherwise the new component is made and its number is answered; numbers count 0, 1, 2, ... in"
                + " order made.", UseEdgesTest::numbersCountUp);
        check.holds("An owner may use the same trait in several components.", UseEdgesTest::theSameTraitAgain);
        check.holds("Nothing else changes.", UseEdgesTest::nothingElseChanges);
        check.end();
    }

    private static TraitFlattener sized(int classes, int traits) {
        TraitFlattener x = new TraitFlattener(classes, traits, 2, 2);
        Make.numberedBodies(x, 2);
        x.define(Make.trait(0), 0, 1);
        return x;
    }

    // With one class and eight traits, 8 .. 15 are owner ids of traits and no trait numbers.
    private static void theTraitIsNoOwnerId() {
        TraitFlattener x = sized(1, 8);
        for (int id : Make.range(8, 15)) {
            check.refused(x, "use(0, " + id + ")", () -> x.use(0, id), BAD);
            check.refused(x, "use(15, " + id + ")", () -> x.use(15, id), BAD);
        }
        for (int trait : Make.range(0, 7)) {
            check.same("use(0, " + trait + ")", x.use(0, trait), trait);
            check.same("trait of " + trait, x.componentInfo(trait, TRAIT), trait);
        }
    }

    private static void aNewComponentIsPlain() {
        TraitFlattener x = new TraitFlattener(2, 2, 16, 2);
        for (int comp : Make.range(0, 15)) {
            x.use(comp % 2, 1);
            check.same("exclusions of " + comp, x.componentInfo(comp, TraitFlattener.FIELD_EXCLUDED), 0);
            for (int sel : Make.range(0, 15)) {
                check.same("alias of " + sel, x.componentInfo(comp, TraitFlattener.FIELD_ALIAS + sel), NONE);
            }
            for (int sel : Make.range(0, 15)) {
                x.exclude(comp, sel);
                x.alias(comp, sel, 15 - sel);
            }
        }
    }

    private static void noSuchOwner() {
        for (int classes : Make.range(1, 8)) {
            for (int traits : Make.range(1, 8)) {
                TraitFlattener x = sized(classes, traits);
                for (int owner : Make.outside(classes)) {
                    if (owner < 8 || owner >= 8 + traits) {
                        check.refused(x, "use(" + owner + ", 0)", () -> x.use(owner, 0), BAD);
                    }
                }
                check.refused(x, "use after the last trait", () -> x.use(8 + traits, 0), BAD);
                check.same("use by the last class", x.use(classes - 1, traits - 1), 0);
            }
        }
    }

    private static void noSuchTrait() {
        for (int traits : Make.range(1, 8)) {
            TraitFlattener x = sized(3, traits);
            for (int trait : Make.outside(traits)) {
                for (int owner : new int[] {0, 2, 8, 8 + traits - 1}) {
                    check.refused(x, "use(" + owner + ", " + trait + ") of " + traits + " traits",
                            () -> x.use(owner, trait), BAD);
                }
            }
        }
    }

    private static void noTraitThatIsNotSmaller() {
        for (int user : Make.range(0, 7)) {
            TraitFlattener x = sized(1, 8);
            for (int trait : Make.range(user, 7)) {
                check.refused(x, "use(" + Make.trait(user) + ", " + trait + ")",
                        () -> x.use(Make.trait(user), trait), BAD);
            }
            for (int trait : Make.range(0, user - 1)) {
                check.same("use(" + Make.trait(user) + ", " + trait + ")", x.use(Make.trait(user), trait), trait);
                check.same("owner of " + trait, x.componentInfo(trait, OWNER), Make.trait(user));
                check.same("trait of " + trait, x.componentInfo(trait, TRAIT), trait);
            }
        }
    }

    private static void traitZeroUsesNone() {
        for (int traits : Make.range(1, 8)) {
            TraitFlattener x = sized(1, traits);
            for (int trait : Make.range(-2, 17)) {
                check.refused(x, "use(8, " + trait + ") of " + traits, () -> x.use(8, trait), BAD);
            }
        }
        TraitFlattener x = sized(1, 2);
        check.same("trait 1 may use trait 0", x.use(9, 0), 0);
    }

    private static void theSeventeenthIsRefused() {
        TraitFlattener x = sized(8, 8);
        for (int comp : Make.range(0, 14)) {
            x.use(comp % 8, comp % 7);
        }
        check.same("the 16th use", x.use(7, 7), 15);
        for (int owner : Make.range(0, 15)) {
            check.refused(x, "the 17th use, by " + owner, () -> x.use(owner, 0), BAD);
        }
        check.same("owner of 15", x.componentInfo(15, OWNER), 7);
        check.same("trait of 15", x.componentInfo(15, TRAIT), 7);
        for (int i = 0; i < 1000; i++) {
            check.same("one use too many", x.use(0, 0), BAD);
        }
        TraitFlattener full = Make.full();
        check.refused(full, "use when all is full", () -> full.use(0, 0), BAD);
    }

    // Refused calls between must not use numbers up.
    private static void numbersCountUp() {
        TraitFlattener x = sized(3, 5);
        for (int comp : Make.range(0, 15)) {
            x.use(8, 0);
            x.use(0, 5);
            int owner = comp % 4 == 3 ? Make.trait(4) : comp % 3;
            check.same("use number " + comp, x.use(owner, comp % 4), comp);
            check.same("owner of " + comp, x.componentInfo(comp, OWNER), owner);
            check.same("trait of " + comp, x.componentInfo(comp, TRAIT), comp % 4);
        }
    }

    private static void theSameTraitAgain() {
        for (int owner : new int[] {0, 7, 9, 15}) {
            TraitFlattener x = sized(8, 8);
            for (int comp : Make.range(0, 15)) {
                check.same("use(" + owner + ", 0)", x.use(owner, 0), comp);
                check.same("provided(" + owner + ", 0)", x.provided(owner, 0), 1);
            }
            x.exclude(3, 0);
            check.same("exclusions of 3", x.componentInfo(3, TraitFlattener.FIELD_EXCLUDED), 1);
            check.same("exclusions of 4", x.componentInfo(4, TraitFlattener.FIELD_EXCLUDED), 0);
        }
    }

    private static void nothingElseChanges() {
        TraitFlattener x = Make.busy();
        Snapshot before = Snapshot.of(x);
        check.same("use(0, 2)", x.use(0, 2), 3);
        check.changed(x, "use(0, 2)", before, "componentInfo(3, 0)", "componentInfo(3, 1)", "componentInfo(3, 2)",
                "componentInfo(3, 16)", "componentInfo(3, 17)", "componentInfo(3, 18)", "componentInfo(3, 19)",
                "provided(0, 1)", "lookup(0, 1, 0)", "lookup(0, 1, 2)", "lookup(1, 1, 1)", "lookup(1, 1, 3)");
    }
}
