/** Promise 12: lookup along the chain of superclasses. */
public final class LookupTest {
    private static final Check check = new Check();
    private static final int NONE = TraitFlattener.NONE;
    private static final int CONFLICT = TraitFlattener.CONFLICT;

    public static void main(String[] args) {
        theNearestClassAnswers();
        theLongestChain();
        aConflictHidesTheSuperclass();
        aTraitMethodIsAtHomeInTheClass();
        editsAreSeenAtOnce();
        wrongArguments();
        check.end();
    }

    /** All four kinds of lookup: answer and home from the class, then from its superclass. */
    private static void finds(TraitFlattener x, String when, int cls, int sel, int... want) {
        int[] kinds = {TraitFlattener.KIND_SELF, TraitFlattener.KIND_SELF_HOME,
            TraitFlattener.KIND_SUPER, TraitFlattener.KIND_SUPER_HOME};
        for (int i = 0; i < 4; i++) {
            String call = when + ": lookup(" + cls + ", " + sel + ", " + kinds[i] + ")";
            check.same(call, x.lookup(cls, sel, kinds[i]), want[i]);
        }
    }

    private static void theNearestClassAnswers() {
        TraitFlattener x = new TraitFlattener(4, 1, 3, 4);
        Make.numberedBodies(x, 3);
        x.setSuper(3, 1);
        x.setSuper(1, 0);
        x.define(0, 0, 0);
        x.define(1, 0, 1);
        x.define(2, 0, 2);
        x.define(0, 1, 2);
        finds(x, "two below", 3, 0, 1, 1, 1, 1);
        finds(x, "itself", 1, 0, 1, 1, 0, 0);
        finds(x, "at the root", 0, 0, 0, 0, NONE, NONE);
        finds(x, "off the chain", 2, 0, 2, 2, NONE, NONE);
        finds(x, "up to the root", 3, 1, 2, 0, 2, 0);
        finds(x, "not understood", 3, 2, NONE, NONE, NONE, NONE);
        x.define(3, 0, 0);
        finds(x, "overridden", 3, 0, 0, 3, 1, 1);
    }

    private static void theLongestChain() {
        TraitFlattener x = new TraitFlattener(8, 1, 16, 4);
        Make.numberedBodies(x, 6);
        for (int cls = 1; cls < 8; cls++) {
            x.setSuper(cls, cls - 1);
        }
        x.define(0, 15, 5);
        finds(x, "eight classes", 7, 15, 5, 0, 5, 0);
        finds(x, "eight classes", 1, 15, 5, 0, 5, 0);
        finds(x, "eight classes", 0, 15, 5, 0, NONE, NONE);
        finds(x, "eight classes", 7, 14, NONE, NONE, NONE, NONE);
    }

    private static void aConflictHidesTheSuperclass() {
        TraitFlattener x = new TraitFlattener(3, 2, 2, 4);
        Make.numberedBodies(x, 3);
        x.define(Make.trait(0), 0, 0);
        x.define(Make.trait(1), 0, 1);
        x.define(0, 0, 2);
        x.setSuper(1, 0);
        x.setSuper(2, 1);
        x.use(1, 0);
        x.use(1, 1);
        finds(x, "a conflict", 1, 0, CONFLICT, 1, 2, 0);
        finds(x, "below a conflict", 2, 0, CONFLICT, 1, CONFLICT, 1);
        x.define(2, 0, 2);
        finds(x, "an own method below a conflict", 2, 0, 2, 2, CONFLICT, 1);
    }

    private static void aTraitMethodIsAtHomeInTheClass() {
        TraitFlattener x = new TraitFlattener(3, 2, 2, 4);
        Make.numberedBodies(x, 2);
        x.define(Make.trait(0), 0, 1);
        x.use(Make.trait(1), 0);
        x.use(1, 1);
        x.setSuper(2, 1);
        finds(x, "a trait method", 1, 0, 1, 1, NONE, NONE);
        finds(x, "a trait method", 2, 0, 1, 1, 1, 1);
        finds(x, "a trait method", 0, 0, NONE, NONE, NONE, NONE);
    }

    private static void editsAreSeenAtOnce() {
        TraitFlattener x = new TraitFlattener(3, 1, 1, 4);
        Make.numberedBodies(x, 2);
        x.define(0, 0, 0);
        x.define(1, 0, 1);
        finds(x, "no superclass", 2, 0, NONE, NONE, NONE, NONE);
        x.setSuper(2, 0);
        finds(x, "a superclass", 2, 0, 0, 0, 0, 0);
        x.setSuper(2, 1);
        finds(x, "another superclass", 2, 0, 1, 1, 1, 1);
        x.define(1, 0, NONE);
        finds(x, "its method gone", 2, 0, NONE, NONE, NONE, NONE);
        x.setSuper(1, 0);
        finds(x, "its superclass set", 2, 0, 0, 0, 0, 0);
        x.setSuper(2, NONE);
        finds(x, "no superclass again", 2, 0, NONE, NONE, NONE, NONE);
    }

    private static void wrongArguments() {
        TraitFlattener x = new TraitFlattener(3, 2, 4, 4);
        for (int cls = -2; cls <= 17; cls++) {
            for (int sel = -2; sel <= 17; sel++) {
                for (int kind = -2; kind <= 5; kind++) {
                    boolean fine = cls >= 0 && cls < 3 && sel >= 0 && sel < 4 && kind >= 0 && kind < 4;
                    check.same("lookup(" + cls + ", " + sel + ", " + kind + ")",
                            x.lookup(cls, sel, kind), fine ? NONE : TraitFlattener.BAD);
                }
            }
        }
        for (int far : Make.FAR) {
            check.same("lookup(" + far + ", 0, 0)", x.lookup(far, 0, 0), TraitFlattener.BAD);
            check.same("lookup(0, " + far + ", 0)", x.lookup(0, far, 0), TraitFlattener.BAD);
            check.same("lookup(0, 0, " + far + ")", x.lookup(0, 0, far), TraitFlattener.BAD);
        }
    }
}
