import java.util.ArrayList;
import java.util.List;

/** The opening of the document, the plain sentences of "Words used below", and what "Not promised" still asks. */
public final class WhatItIsTest {
    private static final Check check = new Check();
    private static final int NONE = TraitFlattener.NONE;
    private static final int CONFLICT = TraitFlattener.CONFLICT;
    private static final int CONST = TraitFlattener.OP_CONST;
    private static final int ADD = TraitFlattener.OP_ADD;
    private static final int SEND = TraitFlattener.OP_SEND;
    private static final int SUPER = TraitFlattener.OP_SUPER;

    public static void main(String[] args) {
        whatItIs();
        words();
        notPromised();
        check.end();
    }

    private static void whatItIs() {
        check.holds("Method bodies are tiny accumulator programs entered cell by cell.",
                WhatItIsTest::bodiesGrowCellByCell);
        check.holds("Classes and traits (together called owners) have own methods per selector.",
                WhatItIsTest::everyOwnerHasItsOwnMethods);
        check.holds("They use traits through components, which may exclude selectors and alias a new selector to an"
                + " old selector's body.", WhatItIsTest::componentsExcludeAndAlias);
        check.holds("Traits are composed by sum, alias and exclusion.", WhatItIsTest::traitsAreComposed);
        check.holds("Classes use traits and inherit singly from lower-numbered classes.",
                WhatItIsTest::classesInheritSingly);
        check.holds("Lookup of a selector walks the class chain over the provided dictionaries and answers a body, a"
                + " conflict or does-not-understand, together with the home class where it was found.",
                WhatItIsTest::lookupWalksTheChain);
        check.holds("A send machine runs bodies: self-sends restart at the receiver's class, and super-sends restart"
                + " at the superclass of the home class.", WhatItIsTest::sendsRestart);
        check.holds("So a super-send inside a trait method binds to the superclass of the class that uses the trait.",
                WhatItIsTest::superInTraitBindsToTheUser);
        check.holds("Every answer always reflects the current definitions, however they were edited in between.",
                WhatItIsTest::answersForgetTheEditing);
    }

    private static void words() {
        check.holds("Class c is owner c; trait t is owner TRAIT_BASE + t.", WhatItIsTest::ownerIds);
        check.holds("a body number, NONE or CONFLICT.", WhatItIsTest::valuesAreOfThreeKinds);
        check.holds("belongs to one owner and names one trait t.", WhatItIsTest::componentsKeepOwnerAndTrait);
        check.holds("The alias map gives, for some new selectors, one old selector each.",
                WhatItIsTest::aliasMapGivesOneEach);
    }

    private static void notPromised() {
        check.holds("In every case they must reflect the current state exactly as described above.",
                WhatItIsTest::answersForgetTheEditing);
        check.holds("The order in which the contributions of components are gathered is free, since it cannot affect"
                + " any answer.", WhatItIsTest::orderOfComponentsDoesNotMatter);
    }

    private static void bodiesGrowCellByCell() {
        TraitFlattener x = new TraitFlattener(1, 1, 1, 1);
        x.define(0, 0, x.beginBody());
        int[][] cells = {{ADD, 3}, {TraitFlattener.OP_STORE, 0}, {TraitFlattener.OP_MUL, 4},
                {TraitFlattener.OP_ADD_TMP, 0}, {TraitFlattener.OP_ARG, 0}, {CONST, -9}, {TraitFlattener.OP_RET, 0}};
        int[] accumulator = {13, 13, 52, 65, 10, -9, -9};
        check.same("the empty body", x.run(0, 0, 10), 10);
        for (int i = 0; i < cells.length; i++) {
            x.emit(cells[i][0], cells[i][1]);
            check.same("bodyLength after " + (i + 1) + " cells", x.bodyLength(0), i + 1);
            check.same("run after " + (i + 1) + " cells", x.run(0, 0, 10), accumulator[i]);
        }
    }

    private static void everyOwnerHasItsOwnMethods() {
        TraitFlattener x = new TraitFlattener(8, 8, 16, 1);
        Make.numberedBodies(x, 16);
        for (int owner = 0; owner < 16; owner++) {
            for (int sel = 0; sel < 16; sel++) {
                x.define(owner, sel, (owner * 5 + sel * 3) % 16);
            }
        }
        for (int owner = 0; owner < 16; owner++) {
            for (int sel = 0; sel < 16; sel++) {
                check.same("ownMethod(" + owner + ", " + sel + ")", x.ownMethod(owner, sel),
                        (owner * 5 + sel * 3) % 16);
            }
        }
    }

    private static void componentsExcludeAndAlias() {
        for (int user : new int[] {0, Make.trait(1)}) {
            TraitFlattener x = new TraitFlattener(1, 2, 4, 1);
            Make.numberedBodies(x, 2);
            x.define(Make.trait(0), 0, 0);
            x.define(Make.trait(0), 1, 1);
            int comp = x.use(user, 0);
            x.exclude(comp, 0);
            x.alias(comp, 2, 0);
            provides(x, user, NONE, 1, 0, NONE);
            provides(x, Make.trait(0), 0, 1, NONE, NONE);
        }
    }

    private static void traitsAreComposed() {
        TraitFlattener x = new TraitFlattener(1, 4, 4, 1);
        Make.numberedBodies(x, 3);
        x.define(Make.trait(0), 0, 0);
        x.define(Make.trait(0), 1, 1);
        x.define(Make.trait(1), 1, 2);
        int first = x.use(Make.trait(2), 0);
        x.use(Make.trait(2), 1);
        x.use(0, 2);
        provides(x, Make.trait(2), 0, CONFLICT, NONE, NONE);
        provides(x, 0, 0, CONFLICT, NONE, NONE);
        x.exclude(first, 1);
        provides(x, 0, 0, 2, NONE, NONE);
        x.alias(first, 3, 1);
        provides(x, Make.trait(2), 0, 2, NONE, 1);
        provides(x, 0, 0, 2, NONE, 1);
    }

    private static void classesInheritSingly() {
        TraitFlattener x = new TraitFlattener(4, 1, 2, 1);
        Make.numberedBodies(x, 3);
        x.define(0, 0, 0);
        x.define(1, 0, 1);
        x.define(Make.trait(0), 1, 2);
        x.use(2, 0);
        for (int sup : new int[] {0, 1}) {
            x.setSuper(2, sup);
            check.same("superOf(2)", x.superOf(2), sup);
            check.same("inherited from class " + sup, x.run(2, 0, 9), sup);
            check.same("used from trait 0", x.run(2, 1, 9), 2);
        }
        check.no("setSuper(2, 3)", x.setSuper(2, 3));
        check.no("setSuper(2, 2)", x.setSuper(2, 2));
        check.same("superOf(2) at the end", x.superOf(2), 1);
    }

    private static void lookupWalksTheChain() {
        TraitFlattener x = new TraitFlattener(4, 2, 4, 1);
        Make.numberedBodies(x, 3);
        x.setSuper(1, 0);
        x.setSuper(2, 1);
        x.setSuper(3, 2);
        x.define(0, 0, 0);
        x.define(0, 1, 0);
        x.define(Make.trait(0), 1, 1);
        x.define(Make.trait(1), 1, 2);
        x.define(Make.trait(1), 2, 2);
        x.use(1, 0);
        x.use(1, 1);
        int[] found = {0, CONFLICT, 2, NONE};
        int[] homes = {0, 1, 1, NONE};
        for (int sel = 0; sel < 4; sel++) {
            check.same("found for " + sel, x.lookup(3, sel, TraitFlattener.KIND_SELF), found[sel]);
            check.same("home for " + sel, x.lookup(3, sel, TraitFlattener.KIND_SELF_HOME), homes[sel]);
        }
    }

    private static void sendsRestart() {
        TraitFlattener x = new TraitFlattener(4, 1, 3, 8);
        for (int cls = 1; cls < 4; cls++) {
            x.setSuper(cls, cls - 1);
        }
        for (int cls = 0; cls < 4; cls++) {
            x.define(cls, 0, Make.body(x, CONST, 10 + cls));
        }
        x.define(1, 1, Make.body(x, SEND, 0));
        x.define(1, 2, Make.body(x, SUPER, 0));
        for (int cls = 1; cls < 4; cls++) {
            check.same("self-send from home 1 in an instance of " + cls, x.run(cls, 1, 0), 10 + cls);
            check.same("super-send from home 1 in an instance of " + cls, x.run(cls, 2, 0), 10);
        }
        int climbOfTwo = Make.body(x, SUPER, 0, ADD, 100);
        x.define(2, 0, climbOfTwo);
        check.same("the home is where the body was found", x.run(2, 0, 0), 111);
        x.define(3, 0, climbOfTwo);
        check.same("the same body with two homes", x.run(3, 0, 0), 211);
    }

    private static void superInTraitBindsToTheUser() {
        TraitFlattener x = new TraitFlattener(6, 3, 2, 8);
        x.define(0, 0, Make.body(x, CONST, 20));
        x.define(1, 0, Make.body(x, CONST, 21));
        x.define(Make.trait(0), 1, Make.body(x, SUPER, 0));
        x.use(Make.trait(1), 0);
        x.use(Make.trait(2), 1);
        x.setSuper(2, 0);
        x.setSuper(3, 1);
        x.setSuper(4, 3);
        x.use(2, 0);
        x.use(3, 2);
        check.same("class 2 uses trait 0", x.run(2, 1, 0), 20);
        check.same("class 3 uses it through traits 1 and 2", x.run(3, 1, 0), 21);
        check.same("class 4 inherits from class 3", x.run(4, 1, 0), 21);
        x.use(5, 0);
        check.same("class 5 has no superclass", x.run(5, 1, 0), 0);
        check.same("status without superclass", x.runStatus(), TraitFlattener.STATUS_DNU);
    }

    /** An object edited back and forth answers as a new one that is told only where the editing ended. */
    private static void answersForgetTheEditing() {
        long row = 8L;
        for (int object = 0; object < 60; object++) {
            TraitFlattener x = new TraitFlattener(8, 8, 16, 6);
            for (int i = 0; i < 300; i++) {
                row = row * 6364136223846793005L + 1442695040888963407L;
                edit(x, (int) (row >>> 40));
            }
            TraitFlattener y = retold(x);
            for (int cls = 0; cls < 8; cls++) {
                for (int sel = 0; sel < 16; sel++) {
                    String call = "object " + object + ": run(" + cls + ", " + sel + ", 3)";
                    check.same(call, x.run(cls, sel, 3), y.run(cls, sel, 3));
                    check.same("runStatus() after " + call, x.runStatus(), y.runStatus());
                }
            }
            check.changed(x, "object " + object + ": the editing", Snapshot.of(y));
        }
    }

    private static void edit(TraitFlattener x, int number) {
        int sel = number & 3;
        int owner = number >> 2 & 15;
        int other = number >> 6 & 15;
        switch (number >> 10 & 15) {
            case 0 -> x.beginBody();
            case 1, 2 -> x.emit(other % 9, sel);
            case 3, 4 -> x.setSuper(owner, other - 1);
            case 5, 6, 7, 8 -> x.define(owner, sel, other - 1);
            case 9, 10 -> x.define(owner, sel, NONE);
            case 11 -> x.use(owner, other & 7);
            case 12 -> x.exclude(owner, sel);
            case 13 -> x.alias(owner, sel, other & 3);
            default -> x.run(owner & 7, sel, other);
        }
    }

    /** A new object brought to the same bodies, superclasses, own methods and components by the shortest way. */
    private static TraitFlattener retold(TraitFlattener x) {
        TraitFlattener y = new TraitFlattener(8, 8, 16, 6);
        for (int body = 0; x.bodyLength(body) >= 0; body++) {
            y.beginBody();
            for (int i = 0; i < x.bodyLength(body); i++) {
                y.emit(x.code(body, i) >> 8, (byte) x.code(body, i));
            }
        }
        for (int comp = 0; x.componentInfo(comp, TraitFlattener.FIELD_OWNER) >= 0; comp++) {
            y.use(x.componentInfo(comp, TraitFlattener.FIELD_OWNER), x.componentInfo(comp, TraitFlattener.FIELD_TRAIT));
            for (int sel = 0; sel < 16; sel++) {
                if ((x.componentInfo(comp, TraitFlattener.FIELD_EXCLUDED) >> sel & 1) == 1) {
                    y.exclude(comp, sel);
                }
                y.alias(comp, sel, x.componentInfo(comp, TraitFlattener.FIELD_ALIAS + sel));
            }
        }
        for (int owner = 0; owner < 16; owner++) {
            y.setSuper(owner, x.superOf(owner));
            for (int sel = 0; sel < 16; sel++) {
                y.define(owner, sel, x.ownMethod(owner, sel));
            }
        }
        return y;
    }

    private static void ownerIds() {
        TraitFlattener x = new TraitFlattener(8, 8, 1, 1);
        Make.numberedBodies(x, 16);
        for (int n = 0; n < 8; n++) {
            x.define(n, 0, n);
            x.define(TraitFlattener.TRAIT_BASE + n, 0, 8 + n);
        }
        for (int n = 0; n < 8; n++) {
            check.same("class " + n + " answers its own method", x.run(n, 0, 99), n);
            x.define(n, 0, NONE);
            x.use(n, n);
            check.same("class " + n + " answers the method of trait " + n, x.run(n, 0, 99), 8 + n);
        }
    }

    private static void valuesAreOfThreeKinds() {
        for (TraitFlattener x : List.of(Make.busy(), Make.full(), new TraitFlattener(8, 8, 16, 16))) {
            for (int owner = 0; owner < 16; owner++) {
                for (int sel = 0; sel < 16; sel++) {
                    int value = x.provided(owner, sel);
                    boolean inRange = x.ownMethod(owner, sel) != TraitFlattener.BAD;
                    check.yes("provided(" + owner + ", " + sel + ") is " + value, !inRange || value == NONE
                            || value == CONFLICT || x.bodyLength(value) != TraitFlattener.BAD);
                }
            }
        }
    }

    private static void componentsKeepOwnerAndTrait() {
        TraitFlattener x = new TraitFlattener(8, 8, 4, 1);
        Make.numberedBodies(x, 16);
        List<int[]> made = new ArrayList<>();
        for (int n = 0; n < 16; n++) {
            int owner = n % 2 == 0 ? n / 2 : Make.trait(1 + n % 7);
            int trait = owner < 8 ? 7 - n / 2 : n % 7;
            check.same("use(" + owner + ", " + trait + ")", x.use(owner, trait), n);
            made.add(new int[] {owner, trait});
            x.define(owner, n % 4, n);
            x.exclude(n, n % 4);
            x.alias(n, n % 4, (n + 1) % 4);
            for (int comp = 0; comp <= n; comp++) {
                check.same("owner of " + comp, x.componentInfo(comp, TraitFlattener.FIELD_OWNER), made.get(comp)[0]);
                check.same("trait of " + comp, x.componentInfo(comp, TraitFlattener.FIELD_TRAIT), made.get(comp)[1]);
            }
        }
    }

    private static void aliasMapGivesOneEach() {
        TraitFlattener x = new TraitFlattener(1, 1, 4, 1);
        x.use(0, 0);
        x.use(0, 0);
        x.alias(0, 0, 2);
        x.alias(0, 2, 2);
        x.alias(0, 0, 3);
        x.alias(1, 3, 0);
        int[][] olds = {{2, NONE, 2, NONE}, {NONE, NONE, NONE, 0}};
        for (int comp = 0; comp < 2; comp++) {
            for (int sel = 0; sel < 4; sel++) {
                check.same("alias of " + sel + " in " + comp,
                        x.componentInfo(comp, TraitFlattener.FIELD_ALIAS + sel), olds[comp][sel]);
            }
        }
    }

    private static void orderOfComponentsDoesNotMatter() {
        TraitFlattener first = composed(new int[] {0, 1, 2, 3, 4});
        for (int number = 1; number < 120; number++) {
            TraitFlattener x = composed(permutation(number));
            for (int sel = 0; sel < 4; sel++) {
                String call = "order " + number + ": ";
                check.same(call + "provided(0, " + sel + ")", x.provided(0, sel), first.provided(0, sel));
                check.same(call + "provided(11, " + sel + ")", x.provided(11, sel), first.provided(11, sel));
                check.same(call + "run(0, " + sel + ", 9)", x.run(0, sel, 9), first.run(0, sel, 9));
                check.same(call + "runStatus()", x.runStatus(), first.runStatus());
            }
        }
        provides(first, Make.trait(3), CONFLICT, 1, 0, CONFLICT);
        provides(first, 0, CONFLICT, 1, 0, CONFLICT);
    }

    /** Five components of one trait and one class above it, made in the given order. */
    private static TraitFlattener composed(int[] order) {
        TraitFlattener x = new TraitFlattener(1, 4, 4, 1);
        Make.numberedBodies(x, 4);
        x.define(Make.trait(0), 0, 0);
        x.define(Make.trait(1), 0, 3);
        x.define(Make.trait(1), 1, 1);
        x.define(Make.trait(2), 0, 2);
        for (int part : order) {
            int comp = x.use(part == 4 ? 0 : Make.trait(3), part == 4 ? 3 : part % 3);
            if (part == 0) {
                x.alias(comp, 2, 0);
            } else if (part == 2) {
                x.alias(comp, 3, 0);
            } else if (part == 3) {
                x.exclude(comp, 0);
                x.alias(comp, 3, 0);
            }
        }
        return x;
    }

    private static int[] permutation(int number) {
        List<Integer> left = new ArrayList<>(List.of(0, 1, 2, 3, 4));
        int[] order = new int[5];
        int rest = number;
        for (int i = 0; i < 5; i++) {
            order[i] = left.remove(rest % left.size());
            rest /= 5 - i;
        }
        return order;
    }

    private static void provides(TraitFlattener x, int owner, int... values) {
        for (int sel = 0; sel < values.length; sel++) {
            check.same("provided(" + owner + ", " + sel + ")", x.provided(owner, sel), values[sel]);
        }
    }
}
