public final class TraitFlattener {
    public static final int NONE = -1;
    public static final int CONFLICT = -2;
    public static final int BAD = -3;

    public static final int TRAIT_BASE = 8;
    public static final int MAX_CLASSES = 8;
    public static final int MAX_TRAITS = 8;
    public static final int MAX_SELECTORS = 16;
    public static final int MAX_DEPTH = 16;
    public static final int MAX_BODIES = 16;
    public static final int MAX_BODY_LENGTH = 16;
    public static final int MAX_COMPONENTS = 16;
    public static final int STEP_LIMIT = 1000;

    public static final int OP_ARG = 0;
    public static final int OP_CONST = 1;
    public static final int OP_ADD = 2;
    public static final int OP_MUL = 3;
    public static final int OP_STORE = 4;
    public static final int OP_ADD_TMP = 5;
    public static final int OP_SEND = 6;
    public static final int OP_SUPER = 7;
    public static final int OP_RET = 8;

    public static final int KIND_SELF = 0;
    public static final int KIND_SUPER = 1;
    public static final int KIND_SELF_HOME = 2;
    public static final int KIND_SUPER_HOME = 3;

    public static final int FIELD_OWNER = 0;
    public static final int FIELD_TRAIT = 1;
    public static final int FIELD_EXCLUDED = 2;
    public static final int FIELD_ALIAS = 16;

    public static final int STATUS_NOT_RUN = 0;
    public static final int STATUS_OK = 1;
    public static final int STATUS_DNU = 2;
    public static final int STATUS_CONFLICT = 3;
    public static final int STATUS_DEPTH = 4;
    public static final int STATUS_STEPS = 5;

    private static final int LEAST_NUMBER = -128;
    private static final int GREATEST_NUMBER = 127;

    // Tables of two dimensions are held row after row in one array.
    private static final int BODY_CELLS = MAX_BODIES * MAX_BODY_LENGTH;
    private static final int OWNER_SLOTS = (TRAIT_BASE + MAX_TRAITS) * MAX_SELECTORS;
    private static final int ALIAS_SLOTS = MAX_COMPONENTS * MAX_SELECTORS;

    // Far above need: a run makes at most STEP_LIMIT steps, and at most one return per frame beside them.
    private static final int TURN_LIMIT = 1000000;

    private final int classCount;
    private final int traitCount;
    private final int selectorCount;
    private final int depthLimit;

    private int bodyCount = 0;
    private final int[] bodyLengths = new int[MAX_BODIES];
    private final int[] cellOps = new int[BODY_CELLS];
    private final int[] cellOperands = new int[BODY_CELLS];

    private final int[] superclasses = new int[MAX_CLASSES];
    private final int[] ownMethods = new int[OWNER_SLOTS];

    private int componentCount = 0;
    private final int[] componentOwners = new int[MAX_COMPONENTS];
    private final int[] componentTraits = new int[MAX_COMPONENTS];
    private final int[] excludedSets = new int[MAX_COMPONENTS];
    private final int[] aliasedSelectors = new int[ALIAS_SLOTS];

    // Worked out anew after each edit, so that getters and runs only read it.
    private final int[] flatMethods = new int[OWNER_SLOTS];

    private int lastStatus = STATUS_NOT_RUN;
    private int runResult = 0;
    private int receiver = 0;
    private int steps = 0;
    private int frameCount = 0;
    private final int[] frameArgs = new int[MAX_DEPTH];
    private final int[] frameAccs = new int[MAX_DEPTH];
    private final int[] frameTmps = new int[MAX_DEPTH];
    private final int[] framePcs = new int[MAX_DEPTH];
    private final int[] frameBodies = new int[MAX_DEPTH];
    private final int[] frameHomes = new int[MAX_DEPTH];

    public TraitFlattener(int classes, int traits, int selectors, int depth) {
        classCount = clamp(classes, MAX_CLASSES);
        traitCount = clamp(traits, MAX_TRAITS);
        selectorCount = clamp(selectors, MAX_SELECTORS);
        depthLimit = clamp(depth, MAX_DEPTH);
        for (int c = 0; c < MAX_CLASSES; c++) {
            superclasses[c] = NONE;
        }
        for (int i = 0; i < OWNER_SLOTS; i++) {
            ownMethods[i] = NONE;
            flatMethods[i] = NONE;
        }
        for (int i = 0; i < ALIAS_SLOTS; i++) {
            aliasedSelectors[i] = NONE;
        }
    }

    public int beginBody() {
        if (bodyCount == MAX_BODIES) {
            return BAD;
        }
        bodyCount++;
        return bodyCount - 1;
    }

    public boolean emit(int op, int k) {
        if (bodyCount == 0 || op < OP_ARG || op > OP_RET) {
            return false;
        }
        int open = bodyCount - 1;
        if (bodyLengths[open] == MAX_BODY_LENGTH || !operandFits(op, k)) {
            return false;
        }
        int cell = open * MAX_BODY_LENGTH + bodyLengths[open];
        cellOps[cell] = op;
        cellOperands[cell] = takesSelector(op) || takesNumber(op) ? k : 0;
        bodyLengths[open]++;
        return true;
    }

    public int bodyLength(int body) {
        return isBody(body) ? bodyLengths[body] : BAD;
    }

    public int code(int body, int i) {
        if (!isBody(body) || i < 0 || i >= bodyLengths[body]) {
            return BAD;
        }
        int cell = body * MAX_BODY_LENGTH + i;
        return cellOps[cell] * 256 + (cellOperands[cell] & 255);
    }

    public boolean setSuper(int cls, int sup) {
        if (!isClass(cls) || sup < NONE || sup >= cls) {
            return false;
        }
        superclasses[cls] = sup;
        return true;
    }

    public int superOf(int cls) {
        return isClass(cls) ? superclasses[cls] : BAD;
    }

    public boolean define(int owner, int sel, int body) {
        if (!isOwner(owner) || !isSelector(sel)) {
            return false;
        }
        if (body != NONE && !isBody(body)) {
            return false;
        }
        ownMethods[owner * MAX_SELECTORS + sel] = body;
        flattenAll();
        return true;
    }

    public int ownMethod(int owner, int sel) {
        if (!isOwner(owner) || !isSelector(sel)) {
            return BAD;
        }
        return ownMethods[owner * MAX_SELECTORS + sel];
    }

    public int use(int owner, int trait) {
        if (!isOwner(owner) || trait < 0 || trait >= traitCount) {
            return BAD;
        }
        if (owner >= TRAIT_BASE && trait >= owner - TRAIT_BASE) {
            return BAD;
        }
        if (componentCount == MAX_COMPONENTS) {
            return BAD;
        }
        int comp = componentCount;
        componentOwners[comp] = owner;
        componentTraits[comp] = trait;
        componentCount++;
        flattenAll();
        return comp;
    }

    public boolean exclude(int comp, int sel) {
        if (!isComponent(comp) || !isSelector(sel)) {
            return false;
        }
        excludedSets[comp] = excludedSets[comp] | (1 << sel);
        flattenAll();
        return true;
    }

    public boolean alias(int comp, int newSel, int oldSel) {
        if (!isComponent(comp) || !isSelector(newSel) || !isSelector(oldSel)) {
            return false;
        }
        int slot = comp * MAX_SELECTORS + newSel;
        if (aliasedSelectors[slot] != NONE) {
            return aliasedSelectors[slot] == oldSel;
        }
        aliasedSelectors[slot] = oldSel;
        flattenAll();
        return true;
    }

    public int componentInfo(int comp, int field) {
        if (!isComponent(comp)) {
            return BAD;
        }
        if (field == FIELD_OWNER) {
            return componentOwners[comp];
        }
        if (field == FIELD_TRAIT) {
            return componentTraits[comp];
        }
        if (field == FIELD_EXCLUDED) {
            return excludedSets[comp];
        }
        if (field >= FIELD_ALIAS && field < FIELD_ALIAS + selectorCount) {
            return aliasedSelectors[comp * MAX_SELECTORS + (field - FIELD_ALIAS)];
        }
        return BAD;
    }

    public int provided(int owner, int sel) {
        if (!isOwner(owner) || !isSelector(sel)) {
            return BAD;
        }
        return flatMethods[owner * MAX_SELECTORS + sel];
    }

    public int lookup(int cls, int sel, int kind) {
        if (!isClass(cls) || !isSelector(sel) || kind < KIND_SELF || kind > KIND_SUPER_HOME) {
            return BAD;
        }
        boolean fromSuper = kind == KIND_SUPER || kind == KIND_SUPER_HOME;
        int start = fromSuper ? superclasses[cls] : cls;
        int home = findHome(start, sel);
        if (home == NONE || kind == KIND_SELF_HOME || kind == KIND_SUPER_HOME) {
            return home;
        }
        return flatMethods[home * MAX_SELECTORS + sel];
    }

    public int run(int cls, int sel, int arg) {
        if (!isClass(cls) || !isSelector(sel)) {
            return 0;
        }
        receiver = cls;
        steps = 0;
        frameCount = 0;
        send(sel, arg, cls);
        for (int turn = 0; turn < TURN_LIMIT && frameCount > 0; turn++) {
            actOnTopFrame();
        }
        return runResult;
    }

    public int runStatus() {
        return lastStatus;
    }

    private static int clamp(int value, int greatest) {
        if (value < 1) {
            return 1;
        }
        return value > greatest ? greatest : value;
    }

    private boolean isClass(int cls) {
        return cls >= 0 && cls < classCount;
    }

    private boolean isOwner(int owner) {
        return isClass(owner) || (owner >= TRAIT_BASE && owner < TRAIT_BASE + traitCount);
    }

    private boolean isSelector(int sel) {
        return sel >= 0 && sel < selectorCount;
    }

    private boolean isBody(int body) {
        return body >= 0 && body < bodyCount;
    }

    private boolean isComponent(int comp) {
        return comp >= 0 && comp < componentCount;
    }

    private static boolean takesSelector(int op) {
        return op == OP_SEND || op == OP_SUPER;
    }

    private static boolean takesNumber(int op) {
        return op == OP_CONST || op == OP_ADD || op == OP_MUL;
    }

    private boolean operandFits(int op, int k) {
        if (takesSelector(op)) {
            return isSelector(k);
        }
        return !takesNumber(op) || (k >= LEAST_NUMBER && k <= GREATEST_NUMBER);
    }

    // A trait is built from lower traits alone and a class from traits alone,
    // so in this order every value that is read has already been worked out.
    private void flattenAll() {
        for (int t = 0; t < traitCount; t++) {
            flattenOwner(TRAIT_BASE + t);
        }
        for (int c = 0; c < classCount; c++) {
            flattenOwner(c);
        }
    }

    private void flattenOwner(int owner) {
        for (int sel = 0; sel < selectorCount; sel++) {
            int slot = owner * MAX_SELECTORS + sel;
            int own = ownMethods[slot];
            flatMethods[slot] = own != NONE ? own : sumOfComponents(owner, sel);
        }
    }

    private int sumOfComponents(int owner, int sel) {
        int sum = NONE;
        for (int comp = 0; comp < componentCount; comp++) {
            if (componentOwners[comp] == owner) {
                int direct = directContribution(comp, sel);
                sum = merge(sum, direct);
                int aliased = aliasContribution(comp, sel);
                sum = merge(sum, aliased);
            }
        }
        return sum;
    }

    private int directContribution(int comp, int sel) {
        if ((excludedSets[comp] & (1 << sel)) != 0) {
            return NONE;
        }
        return flatMethods[(TRAIT_BASE + componentTraits[comp]) * MAX_SELECTORS + sel];
    }

    private int aliasContribution(int comp, int sel) {
        int oldSel = aliasedSelectors[comp * MAX_SELECTORS + sel];
        if (oldSel == NONE) {
            return NONE;
        }
        return flatMethods[(TRAIT_BASE + componentTraits[comp]) * MAX_SELECTORS + oldSel];
    }

    private static int merge(int sum, int value) {
        if (value == NONE || value == sum) {
            return sum;
        }
        return sum == NONE ? value : CONFLICT;
    }

    private int findHome(int start, int sel) {
        int cls = start;
        for (int hop = 0; hop < MAX_CLASSES && cls != NONE; hop++) {
            if (flatMethods[cls * MAX_SELECTORS + sel] != NONE) {
                return cls;
            }
            cls = superclasses[cls];
        }
        return NONE;
    }

    private void send(int sel, int value, int start) {
        int home = findHome(start, sel);
        if (home == NONE) {
            endRun(STATUS_DNU, 0);
            return;
        }
        int body = flatMethods[home * MAX_SELECTORS + sel];
        if (body == CONFLICT) {
            endRun(STATUS_CONFLICT, 0);
        } else if (frameCount == depthLimit) {
            endRun(STATUS_DEPTH, 0);
        } else {
            pushFrame(body, home, value);
        }
    }

    private void pushFrame(int body, int home, int value) {
        int top = frameCount;
        frameBodies[top] = body;
        frameHomes[top] = home;
        frameArgs[top] = value;
        frameAccs[top] = value;
        frameTmps[top] = 0;
        framePcs[top] = 0;
        frameCount++;
    }

    private void actOnTopFrame() {
        int top = frameCount - 1;
        int body = frameBodies[top];
        int pc = framePcs[top];
        if (pc == bodyLengths[body]) {
            returnFromTopFrame();
        } else if (steps == STEP_LIMIT) {
            endRun(STATUS_STEPS, 0);
        } else {
            steps++;
            framePcs[top] = pc + 1;
            execute(top, body * MAX_BODY_LENGTH + pc);
        }
    }

    private void execute(int top, int cell) {
        int k = cellOperands[cell];
        switch (cellOps[cell]) {
            case OP_ARG:
                frameAccs[top] = frameArgs[top];
                break;
            case OP_CONST:
                frameAccs[top] = k;
                break;
            case OP_ADD:
                frameAccs[top] = frameAccs[top] + k;
                break;
            case OP_MUL:
                frameAccs[top] = frameAccs[top] * k;
                break;
            case OP_STORE:
                frameTmps[top] = frameAccs[top];
                break;
            case OP_ADD_TMP:
                frameAccs[top] = frameAccs[top] + frameTmps[top];
                break;
            case OP_SEND:
                send(k, frameAccs[top], receiver);
                break;
            case OP_SUPER:
                send(k, frameAccs[top], superclasses[frameHomes[top]]);
                break;
            default:
                returnFromTopFrame();
                break;
        }
    }

    private void returnFromTopFrame() {
        int answer = frameAccs[frameCount - 1];
        frameCount--;
        if (frameCount == 0) {
            endRun(STATUS_OK, answer);
        } else {
            frameAccs[frameCount - 1] = answer;
        }
    }

    // A run goes on as long as there are frames, so dropping them all is what ends it.
    private void endRun(int status, int answer) {
        frameCount = 0;
        lastStatus = status;
        runResult = answer;
    }
}
