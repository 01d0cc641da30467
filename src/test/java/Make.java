import java.util.stream.IntStream;

/** Builds what several tests start from. */
final class Make {
    static final int[] FAR = {Integer.MIN_VALUE, Integer.MIN_VALUE + 1, -1000, 1000, Integer.MAX_VALUE};

    private Make() {
    }

    /** A new body of the given cells, written op, k, op, k, ... */
    static int body(TraitFlattener x, int... cells) {
        int body = x.beginBody();
        for (int i = 0; i < cells.length; i += 2) {
            if (!x.emit(cells[i], cells[i + 1])) {
                throw new IllegalStateException("emit(" + cells[i] + ", " + cells[i + 1] + ") was refused");
            }
        }
        return body;
    }

    /** Bodies 0 .. count-1, where body n answers n. */
    static void numberedBodies(TraitFlattener x, int count) {
        for (int n = 0; n < count; n++) {
            body(x, TraitFlattener.OP_CONST, n);
        }
    }

    static int trait(int number) {
        return TraitFlattener.TRAIT_BASE + number;
    }

    /** An object in which every part of the state holds something. */
    static TraitFlattener busy() {
        TraitFlattener x = new TraitFlattener(3, 3, 4, 4);
        numberedBodies(x, 4);
        x.define(trait(0), 0, 0);
        x.define(trait(1), 0, 1);
        x.define(trait(1), 1, 2);
        x.define(0, 0, 3);
        x.setSuper(1, 0);
        x.setSuper(2, 1);
        x.use(1, 0);
        x.use(1, 1);
        x.use(trait(2), 1);
        x.exclude(0, 1);
        x.alias(1, 2, 0);
        x.run(1, 0, 7);
        return x;
    }

    /** An object of the greatest sizes with 16 full bodies and 16 components, of which none can be added. */
    static TraitFlattener full() {
        TraitFlattener x = new TraitFlattener(8, 8, 16, 16);
        for (int n = 0; n < 16; n++) {
            x.beginBody();
            for (int i = 0; i < 16; i++) {
                x.emit(TraitFlattener.OP_ADD, n);
            }
            x.use(n % 8, n / 2);
            x.define(trait(n / 2), n, n);
        }
        for (int cls = 1; cls < 8; cls++) {
            x.setSuper(cls, cls - 1);
        }
        x.exclude(15, 15);
        x.alias(15, 0, 15);
        x.run(7, 0, 1);
        return x;
    }

    static int[] range(int least, int greatest) {
        return IntStream.rangeClosed(least, greatest).toArray();
    }

    /** Numbers outside 0 .. count-1: close by, at the ends of int, and such as a product or a mask brings back. */
    static int[] outside(int count) {
        return IntStream.of(Integer.MIN_VALUE, Integer.MIN_VALUE + 1, -0x10000000, -65536, -256, -128, -16, -8,
                -3, -2, -1, count, count + 1, count + 8, count + 16, 127, 128, 256, 65536, 0x10000000,
                Integer.MAX_VALUE - 1, Integer.MAX_VALUE).filter(n -> n < 0 || n >= count).toArray();
    }

    /** The six bodies that {@link #chain} sets to work: three that climb, two that send on, an empty one. */
    static int chainBodies(TraitFlattener x) {
        int first = body(x, TraitFlattener.OP_SUPER, 0);
        body(x, TraitFlattener.OP_SEND, 1);
        body(x, TraitFlattener.OP_SUPER, 1);
        body(x, TraitFlattener.OP_SEND, 2);
        body(x, TraitFlattener.OP_SUPER, 2);
        x.beginBody();
        return first;
    }

    /**
     * From here on run(7, 0, arg) stacks so many frames, 1 to 24, before it answers arg.
     * It climbs from class 7 to class 0 with selector 0, then with selector 1, then with selector 2.
     */
    static void chain(TraitFlattener x, int firstBody, int frames) {
        for (int cls = 1; cls < 8; cls++) {
            x.setSuper(cls, cls - 1);
        }
        for (int frame = 0; frame < 24; frame++) {
            int sel = frame / 8;
            int cls = 7 - frame % 8;
            int body = firstBody + 2 * sel + (cls == 0 ? 1 : 0);
            if (frame >= frames) {
                body = TraitFlattener.NONE;
            } else if (frame == frames - 1) {
                body = firstBody + 5;
            }
            x.define(cls, sel, body);
        }
    }

    /** Appends the same cell so many times. */
    static void repeat(TraitFlattener x, int times, int op, int k) {
        for (int i = 0; i < times; i++) {
            x.emit(op, k);
        }
    }

    /**
     * Selector 0 takes 990 steps and those of selector 3, whose body is the open one, and then the cells of tail.
     * The repeated cell is one step, and what it costs besides is up to the caller.
     */
    static TraitFlattener longRun(int op, int k, int... tail) {
        TraitFlattener x = new TraitFlattener(1, 1, 6, 16);
        x.define(0, 4, x.beginBody());
        x.define(0, 1, x.beginBody());
        repeat(x, 16, op, k);
        x.define(0, 2, x.beginBody());
        repeat(x, 16, TraitFlattener.OP_SEND, 1);
        x.define(0, 0, x.beginBody());
        repeat(x, 3, TraitFlattener.OP_SEND, 2);
        repeat(x, 10, TraitFlattener.OP_SEND, 1);
        x.emit(TraitFlattener.OP_SEND, 3);
        for (int i = 0; i < tail.length; i += 2) {
            x.emit(tail[i], tail[i + 1]);
        }
        x.define(0, 3, x.beginBody());
        return x;
    }
}
