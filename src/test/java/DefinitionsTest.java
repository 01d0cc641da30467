/** Promises 5 and 6: setSuper, superOf, define and ownMethod. */
public final class DefinitionsTest {
    private static final Check check = new Check();

    public static void main(String[] args) {
        everySuperclass();
        superclassesAreReplaced();
        wrongSuperclasses();
        everyOwnMethod();
        ownMethodsAreReplacedAndRemoved();
        anyBegunBodyMayBeGiven();
        wrongDefinitions();
        check.end();
    }

    private static void everySuperclass() {
        for (int cls = -2; cls <= 9; cls++) {
            for (int sup = -4; sup <= 9; sup++) {
                TraitFlattener x = new TraitFlattener(6, 2, 2, 2);
                int c = cls;
                int s = sup;
                String call = "setSuper(" + cls + ", " + sup + ")";
                if (cls >= 0 && cls < 6 && sup >= -1 && sup < cls) {
                    check.yes(call, x.setSuper(cls, sup));
                    check.same("superOf after " + call, x.superOf(cls), sup);
                } else {
                    check.refused(x, call, () -> x.setSuper(c, s));
                }
            }
        }
    }

    private static void superclassesAreReplaced() {
        TraitFlattener x = Make.busy();
        check.yes("setSuper(2, 1) again", x.setSuper(2, 1));
        check.same("superOf(2)", x.superOf(2), 1);
        check.yes("setSuper(2, 0)", x.setSuper(2, 0));
        check.same("superOf(2)", x.superOf(2), 0);
        check.same("superOf(1)", x.superOf(1), 0);
        check.yes("setSuper(2, NONE)", x.setSuper(2, TraitFlattener.NONE));
        check.same("superOf(2)", x.superOf(2), TraitFlattener.NONE);
        check.yes("setSuper(0, NONE)", x.setSuper(0, TraitFlattener.NONE));
        TraitFlattener y = new TraitFlattener(3, 1, 1, 1);
        Snapshot before = Snapshot.of(y);
        y.setSuper(2, 1);
        check.changed(y, "setSuper(2, 1)", before, "superOf(2)");
    }

    private static void wrongSuperclasses() {
        TraitFlattener x = Make.busy();
        for (int far : Make.FAR) {
            check.refused(x, "setSuper(" + far + ", 0)", () -> x.setSuper(far, 0));
            check.refused(x, "setSuper(" + far + ", NONE)", () -> x.setSuper(far, TraitFlattener.NONE));
            check.refused(x, "setSuper(2, " + far + ")", () -> x.setSuper(2, far));
            check.same("superOf(" + far + ")", x.superOf(far), TraitFlattener.BAD);
        }
        check.refused(x, "setSuper(2, CONFLICT)", () -> x.setSuper(2, TraitFlattener.CONFLICT));
        check.refused(x, "setSuper(2, BAD)", () -> x.setSuper(2, TraitFlattener.BAD));
        for (int cls : new int[] {-1, 3, 7, 8, 9}) {
            check.same("superOf(" + cls + ")", x.superOf(cls), TraitFlattener.BAD);
        }
    }

    private static void everyOwnMethod() {
        TraitFlattener x = new TraitFlattener(5, 3, 6, 2);
        Make.numberedBodies(x, 16);
        for (int owner = -2; owner <= 17; owner++) {
            boolean valid = owner >= 0 && owner < 5 || owner >= 8 && owner < 11;
            for (int sel = -2; sel <= 17; sel++) {
                int o = owner;
                int s = sel;
                int body = (owner * 3 + sel + 16) & 15;
                String call = "define(" + owner + ", " + sel + ", " + body + ")";
                if (valid && sel >= 0 && sel < 6) {
                    check.yes(call, x.define(owner, sel, body));
                } else {
                    check.refused(x, call, () -> x.define(o, s, body));
                    check.same("ownMethod(" + owner + ", " + sel + ")", x.ownMethod(owner, sel), TraitFlattener.BAD);
                }
            }
        }
        for (int owner : new int[] {0, 1, 2, 3, 4, 8, 9, 10}) {
            for (int sel = 0; sel < 6; sel++) {
                check.same("ownMethod(" + owner + ", " + sel + ")",
                        x.ownMethod(owner, sel), (owner * 3 + sel + 16) & 15);
            }
        }
    }

    private static void ownMethodsAreReplacedAndRemoved() {
        TraitFlattener x = new TraitFlattener(2, 2, 3, 2);
        Make.numberedBodies(x, 3);
        for (int owner : new int[] {0, 1, Make.trait(0), Make.trait(1)}) {
            for (int body : new int[] {0, 0, 2, 1, TraitFlattener.NONE, TraitFlattener.NONE, 1}) {
                check.yes("define(" + owner + ", 1, " + body + ")", x.define(owner, 1, body));
                check.same("ownMethod(" + owner + ", 1)", x.ownMethod(owner, 1), body);
                check.same("provided(" + owner + ", 1)", x.provided(owner, 1), body);
                check.same("ownMethod(" + owner + ", 0)", x.ownMethod(owner, 0), TraitFlattener.NONE);
                check.same("ownMethod(" + owner + ", 2)", x.ownMethod(owner, 2), TraitFlattener.NONE);
            }
        }
        TraitFlattener y = new TraitFlattener(2, 2, 3, 2);
        Make.numberedBodies(y, 3);
        Snapshot before = Snapshot.of(y);
        y.define(Make.trait(1), 2, 1);
        check.changed(y, "define(9, 2, 1)", before, "ownMethod(9, 2)", "provided(9, 2)");
    }

    private static void anyBegunBodyMayBeGiven() {
        TraitFlattener x = new TraitFlattener(1, 1, 3, 2);
        x.beginBody();
        x.beginBody();
        check.yes("define of a closed empty body", x.define(0, 0, 0));
        check.yes("define of the open empty body", x.define(0, 1, 1));
        x.emit(TraitFlattener.OP_CONST, 7);
        check.yes("define of the open body", x.define(0, 2, 1));
        check.same("ownMethod(0, 0)", x.ownMethod(0, 0), 0);
        check.same("ownMethod(0, 1)", x.ownMethod(0, 1), 1);
        check.same("ownMethod(0, 2)", x.ownMethod(0, 2), 1);
        check.refused(x, "define of a body not yet begun", () -> x.define(0, 0, 2));
    }

    private static void wrongDefinitions() {
        TraitFlattener x = Make.busy();
        for (int body : new int[] {-4, TraitFlattener.BAD, TraitFlattener.CONFLICT, 4, 5, 15, 16}) {
            check.refused(x, "define(0, 0, " + body + ")", () -> x.define(0, 0, body));
            check.refused(x, "define(8, 0, " + body + ")", () -> x.define(8, 0, body));
        }
        for (int far : Make.FAR) {
            check.refused(x, "define(" + far + ", 0, 0)", () -> x.define(far, 0, 0));
            check.refused(x, "define(" + far + ", 0, NONE)", () -> x.define(far, 0, TraitFlattener.NONE));
            check.refused(x, "define(0, " + far + ", 0)", () -> x.define(0, far, 0));
            check.refused(x, "define(0, 0, " + far + ")", () -> x.define(0, 0, far));
            check.same("ownMethod(" + far + ", 0)", x.ownMethod(far, 0), TraitFlattener.BAD);
            check.same("ownMethod(0, " + far + ")", x.ownMethod(0, far), TraitFlattener.BAD);
        }
    }
}
