/** Promise 12: the sentences that name a boundary case, each with a test of its own. */
public final class LookupEdgesTest {
    private static final Check check = new Check();
    private static final int NONE = TraitFlattener.NONE;
    private static final int CONFLICT = TraitFlattener.CONFLICT;
    private static final int BAD = TraitFlattener.BAD;
    private static final int SELF = TraitFlattener.KIND_SELF;
    private static final int SUPER = TraitFlattener.KIND_SUPER;
    private static final int SELF_HOME = TraitFlattener.KIND_SELF_HOME;
    private static final int SUPER_HOME = TraitFlattener.KIND_SUPER_HOME;

    public static void main(String[] args) {
        check.holds("The first class y with P(y)[s] != NONE gives the answer P(y)[s], which is a body or CONFLICT,"
                + " with HOME y.", LookupEdgesTest::theFirstClassAnswers);
        check.holds("If there is no such class, the answer is NONE (does not understand) and there is no home.",
                LookupEdgesTest::notUnderstood);
        check.holds("A lookup starting from NONE answers NONE.", LookupEdgesTest::fromNone);
        check.holds("`lookup(cls, sel, kind)` answers BAD if cls is not in 0..nC-1, sel is not in 0..nS-1, or kind is"
                + " not in 0..3.", LookupEdgesTest::wrongArguments);
        check.holds("Same kinds of answers; NONE when cls has no superclass.", LookupEdgesTest::noSuperclass);
        check.holds("They answer the home class of the answer (also when the answer is CONFLICT), or NONE if the"
                + " answer is NONE.", LookupEdgesTest::homes);
        check.holds("lookup(c,s,KIND_SUPER) equals NONE if superOf(c) is NONE, and lookup(superOf(c),s,KIND_SELF)"
                + " otherwise.", () -> inManyStates(LookupEdgesTest::superIsSelfAbove));
        check.holds("The same relation links KIND_SUPER_HOME to KIND_SELF_HOME.",
                () -> inManyStates(LookupEdgesTest::superHomeIsSelfHomeAbove));
        check.holds("When provided(c,s) is not NONE, lookup(c,s,KIND_SELF) equals provided(c,s) and"
                + " lookup(c,s,KIND_SELF_HOME) equals c.", () -> inManyStates(LookupEdgesTest::providedIsFoundAtHome));
        check.holds("When provided(c,s) is NONE, KIND_SELF and KIND_SELF_HOME equal KIND_SUPER and KIND_SUPER_HOME"
                + " respectively.", () -> inManyStates(LookupEdgesTest::notProvidedIsFoundAbove));
        check.holds("In particular, a CONFLICT in a class hides any method of its superclasses.",
                LookupEdgesTest::aConflictHides);
        check.end();
    }

    /** Eight classes, each the superclass of the next; body n answers n; traits 0 and 1 differ on selectors 0, 15. */
    private static TraitFlattener ladder() {
        TraitFlattener x = new TraitFlattener(8, 2, 16, 4);
        Make.numberedBodies(x, 16);
        for (int cls : Make.range(1, 7)) {
            x.setSuper(cls, cls - 1);
        }
        for (int sel : new int[] {0, 15}) {
            x.define(8, sel, 0);
            x.define(9, sel, 1);
        }
        return x;
    }

    private static void finds(TraitFlattener x, int cls, int sel, int kind, int want) {
        check.same("lookup(" + cls + ", " + sel + ", " + kind + ")", x.lookup(cls, sel, kind), want);
    }

    // One class alone provides the selector: every class from it up finds it there, body 0 and class 0 too.
    private static void theFirstClassAnswers() {
        for (int home : Make.range(0, 7)) {
            for (int body : new int[] {0, 15}) {
                TraitFlattener x = ladder();
                x.define(home, 15, body);
                for (int cls : Make.range(0, 7)) {
                    finds(x, cls, 15, SELF, cls >= home ? body : NONE);
                    finds(x, cls, 15, SELF_HOME, cls >= home ? home : NONE);
                    finds(x, cls, 15, SUPER, cls > home ? body : NONE);
                    finds(x, cls, 15, SUPER_HOME, cls > home ? home : NONE);
                }
                x.define(0, 15, 7);
                finds(x, 7, 15, SELF, home == 0 ? 7 : body);
                finds(x, 7, 15, SELF_HOME, home);
            }
        }
    }

    private static void notUnderstood() {
        TraitFlattener x = ladder();
        x.define(7, 0, 0);
        for (int cls : Make.range(0, 7)) {
            for (int kind : Make.range(0, 3)) {
                finds(x, cls, 1, kind, NONE);
            }
        }
        for (int cls : Make.range(0, 6)) {
            finds(x, cls, 0, SELF, NONE);
            finds(x, cls, 0, SELF_HOME, NONE);
        }
        finds(x, 7, 0, SUPER, NONE);
        finds(x, 7, 0, SUPER_HOME, NONE);
    }

    private static void fromNone() {
        TraitFlattener x = ladder();
        for (int cls : Make.range(0, 7)) {
            x.setSuper(cls, NONE);
            x.define(cls, 0, cls);
            finds(x, cls, 0, SELF, cls);
            finds(x, cls, 0, SUPER, NONE);
            finds(x, cls, 0, SUPER_HOME, NONE);
        }
    }

    private static void wrongArguments() {
        int[][] sizes = {{1, 1}, {3, 5}, {8, 16}, {1, 16}, {8, 1}};
        for (int[] size : sizes) {
            TraitFlattener x = new TraitFlattener(size[0], 8, size[1], 4);
            for (int kind : Make.range(0, 3)) {
                for (int cls : Make.outside(size[0])) {
                    finds(x, cls, 0, kind, BAD);
                }
                for (int sel : Make.outside(size[1])) {
                    finds(x, 0, sel, kind, BAD);
                }
                finds(x, size[0] - 1, size[1] - 1, kind, NONE);
            }
            for (int kind : Make.outside(4)) {
                finds(x, 0, 0, kind, BAD);
                finds(x, size[0] - 1, size[1] - 1, kind, BAD);
            }
        }
    }

    private static void noSuperclass() {
        TraitFlattener x = ladder();
        x.define(0, 0, 3);
        finds(x, 0, 0, SUPER, NONE);
        finds(x, 0, 0, SELF, 3);
        finds(x, 1, 0, SUPER, 3);
        x.setSuper(1, NONE);
        finds(x, 1, 0, SUPER, NONE);
        finds(x, 1, 0, SUPER_HOME, NONE);
        finds(x, 2, 0, SUPER, NONE);
        x.use(1, 0);
        x.use(1, 1);
        finds(x, 2, 0, SUPER, CONFLICT);
        finds(x, 1, 0, SUPER, NONE);
    }

    private static void homes() {
        for (int home : Make.range(0, 7)) {
            TraitFlattener x = ladder();
            x.use(home, 0);
            x.use(home, 1);
            for (int sel : new int[] {0, 15, 7}) {
                for (int cls : Make.range(0, 7)) {
                    finds(x, cls, sel, SELF_HOME, cls >= home && sel != 7 ? home : NONE);
                    finds(x, cls, sel, SUPER_HOME, cls > home && sel != 7 ? home : NONE);
                    finds(x, cls, sel, SELF, cls >= home && sel != 7 ? CONFLICT : NONE);
                }
            }
        }
    }

    /** One of the relations that hold in every state, asked for one class and one selector. */
    private interface Relation {
        void ask(TraitFlattener x, int cls, int sel);
    }

    // Classes 2 and 5 begin with a conflict, which later steps override, uncover and take away.
    private static void inManyStates(Relation relation) {
        everywhere(new TraitFlattener(8, 8, 16, 16), relation);
        everywhere(Make.full(), relation);
        TraitFlattener x = ladder();
        for (int cls : new int[] {2, 5}) {
            x.use(cls, 0);
            x.use(cls, 1);
        }
        int hidden = 0;
        for (int step : Make.range(0, 199)) {
            int cls = step * 3 % 8;
            int sel = step % 2 == 0 ? 0 : 15;
            if (step % 5 < 2) {
                x.define(cls, sel, step % 3 == 0 ? step % 16 : NONE);
            } else if (step % 5 == 2) {
                x.setSuper(cls, cls - 1 - step % 7 % (cls + 1));
            } else if (step % 25 == 3) {
                x.use(cls, step % 2);
            } else if (step % 25 == 8) {
                x.exclude(step % 16, sel);
            } else if (step % 5 == 4) {
                x.alias(step % 16, step % 16, sel);
            }
            everywhere(x, relation);
            hidden += x.lookup(5, 0, SELF) == CONFLICT && x.lookup(5, 0, SUPER) >= 0 ? 1 : 0;
        }
        check.yes("in several states, not in all, a conflict hides a method: " + hidden, hidden > 9 && hidden < 191);
    }

    private static void everywhere(TraitFlattener x, Relation relation) {
        for (int cls = 0; x.superOf(cls) != BAD; cls++) {
            for (int sel = 0; x.provided(0, sel) != BAD; sel++) {
                relation.ask(x, cls, sel);
            }
        }
    }

    private static void superIsSelfAbove(TraitFlattener x, int cls, int sel) {
        int above = x.superOf(cls);
        finds(x, cls, sel, SUPER, above == NONE ? NONE : x.lookup(above, sel, SELF));
    }

    private static void superHomeIsSelfHomeAbove(TraitFlattener x, int cls, int sel) {
        int above = x.superOf(cls);
        finds(x, cls, sel, SUPER_HOME, above == NONE ? NONE : x.lookup(above, sel, SELF_HOME));
    }

    private static void providedIsFoundAtHome(TraitFlattener x, int cls, int sel) {
        int provided = x.provided(cls, sel);
        if (provided != NONE) {
            finds(x, cls, sel, SELF, provided);
            finds(x, cls, sel, SELF_HOME, cls);
        }
    }

    private static void notProvidedIsFoundAbove(TraitFlattener x, int cls, int sel) {
        if (x.provided(cls, sel) == NONE) {
            finds(x, cls, sel, SELF, x.lookup(cls, sel, SUPER));
            finds(x, cls, sel, SELF_HOME, x.lookup(cls, sel, SUPER_HOME));
        }
    }

    private static void aConflictHides() {
        for (int home : Make.range(1, 7)) {
            TraitFlattener x = ladder();
            for (int above : Make.range(0, home - 1)) {
                x.define(above, 15, above);
            }
            x.use(home, 0);
            int second = x.use(home, 1);
            for (int cls : Make.range(home, 7)) {
                finds(x, cls, 15, SELF, CONFLICT);
                finds(x, cls, 15, SELF_HOME, home);
            }
            finds(x, home, 15, SUPER, home - 1);
            x.exclude(second, 15);
            finds(x, 7, 15, SELF, 0);
            finds(x, 7, 15, SELF_HOME, home);
        }
    }
}
