/**
 * All promises together: long mixed runs of calls, the same on the program and on the model.
 * The calls come from a fixed row of numbers, so that every run of the test is the same.
 */
public final class ModelTest {
    private static final Check check = new Check();
    private static final int OBJECTS = 3000;
    private static final int CALLS = 250;

    private long row = 20261115L;
    private final int[] statusesSeen = new int[6];
    private TraitFlattener x;
    private Model m;
    private int classes;
    private int traits;
    private int selectors;

    public static void main(String[] args) {
        ModelTest test = new ModelTest();
        for (int i = 0; i < OBJECTS; i++) {
            test.oneObject(i);
        }
        for (int status = 1; status <= 5; status++) {
            check.yes("at least 100 runs ended with status " + status, test.statusesSeen[status] >= 100);
        }
        check.end();
    }

    private int next(int bound) {
        row = row * 6364136223846793005L + 1442695040888963407L;
        return (int) ((row >>> 33) % bound);
    }

    /** Mostly a number of 0 .. count-1, and now and then one beside it. */
    private int about(int count) {
        int kind = next(40);
        if (kind == 0) {
            return -1 - next(3);
        }
        if (kind == 1) {
            return count + next(3);
        }
        if (kind == 2) {
            return Make.FAR[next(Make.FAR.length)];
        }
        return next(count);
    }

    private int owner() {
        return next(2) == 0 ? about(classes) : Make.trait(about(traits));
    }

    private void oneObject(int number) {
        classes = 1 + next(8);
        traits = 1 + next(8);
        selectors = 1 + next(number % 2 == 0 ? 4 : 16);
        int depth = 1 + next(16);
        x = new TraitFlattener(classes, traits, selectors, depth);
        m = new Model(classes, traits, selectors, depth);
        if (number % 4 == 1) {
            branchingSends();
        }
        for (int i = 0; i < CALLS; i++) {
            String where = "object " + number + ", call " + i + ": ";
            edit(where);
            read(where);
        }
        everything("object " + number + ", at the end: ");
    }

    /** Selectors that send the next one several times: without them hardly any run meets the step limit. */
    private void branchingSends() {
        for (int sel = 0; sel < Math.min(selectors, 12); sel++) {
            int body = x.beginBody();
            m.beginBody();
            for (int i = 0; i < 4 + next(8) && sel + 1 < selectors; i++) {
                x.emit(TraitFlattener.OP_SEND, sel + 1);
                m.emit(TraitFlattener.OP_SEND, sel + 1);
            }
            x.define(0, sel, body);
            m.define(0, sel, body);
        }
        for (int cls = 1; cls < classes; cls++) {
            x.setSuper(cls, cls - 1);
            m.setSuper(cls, cls - 1);
        }
    }

    private void edit(String where) {
        int kind = next(100);
        if (kind < 6) {
            check.same(where + "beginBody()", x.beginBody(), m.beginBody());
        } else if (kind < 36) {
            emit(where);
        } else if (kind < 42) {
            int a = about(classes);
            int b = next(5) == 0 ? -1 : about(Math.max(1, Math.min(a, 8)));
            same(where + "setSuper(" + a + ", " + b + ")", x.setSuper(a, b), m.setSuper(a, b));
        } else if (kind < 58) {
            int a = owner();
            int b = about(selectors);
            int c = next(4) == 0 ? -1 : about(next(3) == 0 ? 16 : 4);
            same(where + "define(" + a + ", " + b + ", " + c + ")", x.define(a, b, c), m.define(a, b, c));
        } else if (kind < 66) {
            int a = owner();
            int b = about(traits);
            check.same(where + "use(" + a + ", " + b + ")", x.use(a, b), m.use(a, b));
        } else if (kind < 70) {
            int a = about(16);
            int b = about(selectors);
            same(where + "exclude(" + a + ", " + b + ")", x.exclude(a, b), m.exclude(a, b));
        } else if (kind < 76) {
            int a = about(16);
            int b = about(selectors);
            int c = about(selectors);
            same(where + "alias(" + a + ", " + b + ", " + c + ")", x.alias(a, b, c), m.alias(a, b, c));
        } else {
            run(where);
        }
    }

    private void emit(String where) {
        int op = next(3) == 0 ? 6 + next(2) : about(9);
        int k = op == 6 || op == 7 ? about(selectors) : about(256) - 128;
        same(where + "emit(" + op + ", " + k + ")", x.emit(op, k), m.emit(op, k));
    }

    private void run(String where) {
        int a = about(classes);
        int b = about(selectors);
        int c = next(3) == 0 ? next(Integer.MAX_VALUE) * 2 : next(100) - 50;
        String call = where + "run(" + a + ", " + b + ", " + c + ")";
        check.same(call, x.run(a, b, c), m.run(a, b, c));
        check.same("runStatus() after " + call, x.runStatus(), m.runStatus());
        statusesSeen[m.runStatus()]++;
    }

    private void read(String where) {
        int a = owner();
        int b = about(selectors);
        int c = about(4);
        int d = about(16);
        int e = about(16);
        check.same(where + "provided(" + a + ", " + b + ")", x.provided(a, b), m.provided(a, b));
        check.same(where + "ownMethod(" + a + ", " + b + ")", x.ownMethod(a, b), m.ownMethod(a, b));
        check.same(where + "superOf(" + a + ")", x.superOf(a), m.superOf(a));
        check.same(where + "lookup(" + a + ", " + b + ", " + c + ")", x.lookup(a, b, c), m.lookup(a, b, c));
        check.same(where + "bodyLength(" + d + ")", x.bodyLength(d), m.bodyLength(d));
        check.same(where + "code(" + d + ", " + e + ")", x.code(d, e), m.code(d, e));
        int field = next(2) == 0 ? about(3) : 16 + about(selectors);
        check.same(where + "componentInfo(" + d + ", " + field + ")",
                x.componentInfo(d, field), m.componentInfo(d, field));
        check.same(where + "runStatus()", x.runStatus(), m.runStatus());
    }

    private void everything(String where) {
        for (int owner = -1; owner <= 16; owner++) {
            for (int sel = -1; sel <= 16; sel++) {
                String of = "(" + owner + ", " + sel + ")";
                check.same(where + "provided" + of, x.provided(owner, sel), m.provided(owner, sel));
                check.same(where + "ownMethod" + of, x.ownMethod(owner, sel), m.ownMethod(owner, sel));
                check.same(where + "code" + of, x.code(owner, sel), m.code(owner, sel));
                for (int kind = 0; kind <= 3; kind++) {
                    check.same(where + "lookup of kind " + kind + " " + of,
                            x.lookup(owner, sel, kind), m.lookup(owner, sel, kind));
                }
            }
            for (int field = -1; field <= 33; field++) {
                check.same(where + "componentInfo(" + owner + ", " + field + ")",
                        x.componentInfo(owner, field), m.componentInfo(owner, field));
            }
        }
    }

    private static void same(String call, boolean got, boolean want) {
        check.same(call, got ? 1L : 0L, want ? 1L : 0L);
    }
}
