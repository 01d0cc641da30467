/** Promise 1: the four sizes are clamped, and the object starts fresh. */
public final class ConstructionTest {
    private static final Check check = new Check();

    public static void main(String[] args) {
        int[] values = {Integer.MIN_VALUE, Integer.MIN_VALUE + 1, -16, -1, 0, 1, 2, 3, 4, 5, 6, 7, 8, 9,
            10, 11, 12, 13, 14, 15, 16, 17, 100, Integer.MAX_VALUE - 1, Integer.MAX_VALUE};
        for (int value : values) {
            classes(value);
            traits(value);
            selectors(value);
            depth(value);
        }
        fresh(new TraitFlattener(3, 2, 4, 8), 3, 2, 4);
        fresh(new TraitFlattener(8, 8, 16, 16), 8, 8, 16);
        fresh(new TraitFlattener(Integer.MIN_VALUE, 0, -5, 0), 1, 1, 1);
        fresh(new TraitFlattener(Integer.MAX_VALUE, 9, 17, 17), 8, 8, 16);
        objectsAreApart();
        check.end();
    }

    private static int clamp(int value, int greatest) {
        return Math.max(1, Math.min(greatest, value));
    }

    private static void classes(int value) {
        TraitFlattener x = new TraitFlattener(value, 2, 3, 4);
        int count = clamp(value, 8);
        for (int cls = -2; cls <= 20; cls++) {
            int want = cls >= 0 && cls < count ? TraitFlattener.NONE : TraitFlattener.BAD;
            check.same(value + " classes: superOf(" + cls + ")", x.superOf(cls), want);
        }
    }

    private static void traits(int value) {
        TraitFlattener x = new TraitFlattener(2, value, 3, 4);
        int count = clamp(value, 8);
        for (int owner = 8; owner <= 30; owner++) {
            int want = owner < 8 + count ? TraitFlattener.NONE : TraitFlattener.BAD;
            check.same(value + " traits: ownMethod(" + owner + ", 0)", x.ownMethod(owner, 0), want);
        }
    }

    private static void selectors(int value) {
        TraitFlattener x = new TraitFlattener(2, 2, value, 4);
        int count = clamp(value, 16);
        for (int sel = -2; sel <= 40; sel++) {
            int want = sel >= 0 && sel < count ? TraitFlattener.NONE : TraitFlattener.BAD;
            check.same(value + " selectors: ownMethod(0, " + sel + ")", x.ownMethod(0, sel), want);
        }
    }

    // A chain of n frames, sel i sending sel i + 1, ends well only where n frames fit.
    private static void depth(int value) {
        int limit = clamp(value, 16);
        for (int frames = 1; frames <= 16; frames++) {
            TraitFlattener x = new TraitFlattener(1, 1, 16, value);
            for (int sel = 0; sel < frames; sel++) {
                boolean last = sel == frames - 1;
                int op = last ? TraitFlattener.OP_RET : TraitFlattener.OP_SEND;
                x.define(0, sel, Make.body(x, op, last ? 0 : sel + 1));
            }
            x.run(0, 0, 5);
            int want = frames <= limit ? TraitFlattener.STATUS_OK : TraitFlattener.STATUS_DEPTH;
            check.same("depth " + value + ": status of a chain of " + frames, x.runStatus(), want);
        }
        TraitFlattener x = new TraitFlattener(1, 1, 1, value);
        x.define(0, 0, Make.body(x, TraitFlattener.OP_SEND, 0));
        x.run(0, 0, 5);
        check.same("depth " + value + ": endless sends", x.runStatus(), TraitFlattener.STATUS_DEPTH);
    }

    private static void fresh(TraitFlattener x, int classes, int traits, int selectors) {
        check.same("runStatus()", x.runStatus(), TraitFlattener.STATUS_NOT_RUN);
        for (int number = 0; number < 16; number++) {
            check.same("bodyLength(" + number + ")", x.bodyLength(number), TraitFlattener.BAD);
            check.same("componentInfo(" + number + ", 0)", x.componentInfo(number, 0), TraitFlattener.BAD);
        }
        check.no("emit with no open body", x.emit(TraitFlattener.OP_RET, 0));
        for (int owner = 0; owner < 16; owner++) {
            boolean valid = owner < classes || owner >= 8 && owner < 8 + traits;
            for (int sel = 0; sel < 16; sel++) {
                int want = valid && sel < selectors ? TraitFlattener.NONE : TraitFlattener.BAD;
                check.same("ownMethod(" + owner + ", " + sel + ")", x.ownMethod(owner, sel), want);
                check.same("provided(" + owner + ", " + sel + ")", x.provided(owner, sel), want);
            }
        }
        for (int cls = 0; cls < classes; cls++) {
            check.same("superOf(" + cls + ")", x.superOf(cls), TraitFlattener.NONE);
            for (int sel = 0; sel < selectors; sel++) {
                for (int kind = 0; kind <= 3; kind++) {
                    check.same("lookup(" + cls + ", " + sel + ", " + kind + ")",
                            x.lookup(cls, sel, kind), TraitFlattener.NONE);
                }
            }
        }
    }

    private static void objectsAreApart() {
        TraitFlattener second = new TraitFlattener(3, 3, 4, 4);
        Snapshot before = Snapshot.of(second);
        Make.busy();
        check.changed(second, "work on another object", before);
    }
}
