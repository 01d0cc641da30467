/** Builds what several tests start from. */
final class Make {
    static final int[] FAR = {Integer.MIN_VALUE, Integer.MIN_VALUE + 1, -1000, 1000, Integer.MAX_VALUE};

    private Make() {
    }

    /** A new body of the given cells, written op, k, op, k, ... */
    static int body(TraitFlattener x, int... cells) {
        int body = x.beginBody();
        for (int i = 0; i < cells.length; i += 2) {
            if (!x.emit(cells[i], cells[i + 1])) {
                throw new IllegalStateException("emit(" + cells[i] + ", " + cells[i + 1] + ") was refused");
            }
        }
        return body;
    }

    /** Bodies 0 .. count-1, where body n answers n. */
    static void numberedBodies(TraitFlattener x, int count) {
        for (int n = 0; n < count; n++) {
            body(x, TraitFlattener.OP_CONST, n);
        }
    }

    static int trait(int number) {
        return TraitFlattener.TRAIT_BASE + number;
    }

    /** An object in which every part of the state holds something. */
    static TraitFlattener busy() {
        TraitFlattener x = new TraitFlattener(3, 3, 4, 4);
        numberedBodies(x, 4);
        x.define(trait(0), 0, 0);
        x.define(trait(1), 0, 1);
        x.define(trait(1), 1, 2);
        x.define(0, 0, 3);
        x.setSuper(1, 0);
        x.setSuper(2, 1);
        x.use(1, 0);
        x.use(1, 1);
        x.use(trait(2), 1);
        x.exclude(0, 1);
        x.alias(1, 2, 0);
        x.run(1, 0, 7);
        return x;
    }
}
