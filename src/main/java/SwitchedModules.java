/** A program that is changed while it runs; ../shared/DOC.md says what each call must do. */
public final class SwitchedModules {
    public static final int BAD = -1;
    public static final int NO = -2;
    public static final int FULL = -3;

    private static final int PROCEDURES = 6;
    private static final int LONGEST = 12;
    private static final int TYPES = 3;
    private static final int MOST_FIELDS = 4;
    private static final int OBJECTS = 16;
    private static final int GLOBALS = 4;
    private static final int TASKS = 6;
    private static final int MOST_FRAMES = 6;
    private static final int LOCALS = 3;
    private static final int QUEUE = 8;
    private static final int POINTS = 4;
    private static final int MOST_STEPS = 200;

    private static final int RETURN = 0;
    private static final int SET = 1;
    private static final int ADD = 2;
    private static final int SUB = 3;
    private static final int JUMP = 4;
    private static final int CALL = 5;
    private static final int NEW = 6;
    private static final int GET = 7;
    private static final int PUT = 8;
    private static final int LOAD = 9;
    private static final int KEEP = 10;
    private static final int WAIT = 11;
    private static final int POINT = 12;

    private static final int READY = 0;
    private static final int WAITING = 1;
    private static final int ENDED = 2;
    private static final int FAULT = 3;

    private static final int CONSTANT = 0;
    private static final int PLUS = 1;
    private static final int DIVIDED = 2;

    private static final int IN_THE_WAY = 0;
    private static final int TAKEN = 1;
    private static final int NOT_MADE_OVER = 2;
    private static final int NOTHING_STAGED = 3;

    private static final int WRONG_WORD = -100;
    private static final int WRONG_RULE = -200;

    private static final int NONE = -1;

    private final Version present = new Version();
    private final Version draft = new Version();
    private final Rules rules = new Rules();
    private final Heap objects = new Heap();
    private final int[] globals = new int[GLOBALS];
    private final Task[] tasks = new Task[TASKS];
    private int begun;
    private int number;
    private boolean staged;

    public SwitchedModules() {
        for (int t = 0; t < TASKS; t++) {
            tasks[t] = new Task();
        }
    }

    public int word(int p, int i, int op, int a, int b, int c) {
        if (!isWithin(p, PROCEDURES) || i < 0 || i > draft.length[p] || i == LONGEST) {
            return BAD;
        }
        if (staged) {
            return NO;
        }
        draft.write(p, i, op, a, b, c);
        return draft.length[p];
    }

    public boolean cut(int p, int n) {
        if (!isWithin(p, PROCEDURES) || n < 0 || n > draft.length[p] || staged) {
            return false;
        }
        draft.length[p] = n;
        return true;
    }

    public boolean fields(int t, int n) {
        if (!isWithin(t, TYPES) || n < 0 || n > MOST_FIELDS || staged) {
            return false;
        }
        draft.fieldCount[t] = n;
        rules.forgetType(t);
        // Also where the type had n fields before: the document asks whether it was called, not for a difference.
        rules.touched[t] = true;
        return true;
    }

    public int rule(int t, int f, int kind, int from, int k) {
        if (!isWithin(t, TYPES) || !isWithin(f, draft.fieldCount[t])) {
            return BAD;
        }
        if (kind < CONSTANT || kind > DIVIDED || !isWithin(from, MOST_FIELDS)) {
            return BAD;
        }
        if (staged) {
            return NO;
        }
        rules.write(t, f, kind, from, k);
        rules.touched[t] = true;
        return 0;
    }

    public boolean reset() {
        if (staged) {
            return false;
        }
        draft.copyFrom(present);
        rules.forgetAll();
        return true;
    }

    public int stage() {
        if (staged) {
            return NO;
        }
        int wrongWord = draft.firstWrongWord();
        if (wrongWord != NONE) {
            return WRONG_WORD - wrongWord;
        }
        int wrongRule = rules.firstWithoutSource(present, draft);
        if (wrongRule != NONE) {
            return WRONG_RULE - wrongRule;
        }
        staged = true;
        return 0;
    }

    public boolean withdraw() {
        boolean was = staged;
        staged = false;
        return was;
    }

    public boolean changed(int p) {
        return staged && isWithin(p, PROCEDURES) && draftChanges(p);
    }

    public int blocker(int from) {
        return staged ? firstTaskInTheWay(from) : 0;
    }

    public int attempt(int fuel) {
        if (fuel < 0) {
            return BAD;
        }
        if (!staged) {
            return NOTHING_STAGED;
        }
        if (firstTaskInTheWay(1) != 0) {
            return IN_THE_WAY;
        }
        dropUnreachable();
        if (!objects.makeOver(rules, draft, fuel)) {
            return NOT_MADE_OVER;
        }
        takeThePlace();
        return TAKEN;
    }

    public int version() {
        return number;
    }

    public int spawn(int p, int argument) {
        if (!present.hasProcedure(p)) {
            return BAD;
        }
        if (begun >= TASKS) {
            return FULL;
        }
        tasks[begun].push(p, argument, 0);
        begun++;
        return begun;
    }

    public int step(int task, int n) {
        if (!isTask(task) || n < 1 || n > MOST_STEPS) {
            return BAD;
        }
        Task t = tasks[task - 1];
        if (t.condition == WAITING) {
            t.condition = READY;
        }
        for (int done = 0; done < n && t.condition == READY; done++) {
            perform(t);
        }
        return t.condition;
    }

    public int send(int task, int v) {
        if (!isTask(task)) {
            return BAD;
        }
        Task t = tasks[task - 1];
        if (t.condition == ENDED || t.condition == FAULT) {
            return NO;
        }
        if (t.queued >= QUEUE) {
            return FULL;
        }
        t.enqueue(v);
        return t.queued;
    }

    public int state(int task) {
        return isTask(task) ? tasks[task - 1].condition : BAD;
    }

    public int result(int task) {
        return isTask(task) ? tasks[task - 1].outcome : 0;
    }

    public int frames(int task) {
        return isTask(task) ? tasks[task - 1].depth : BAD;
    }

    public int frame(int task, int k, int what) {
        if (!isTask(task) || !isWithin(k, tasks[task - 1].depth)) {
            return BAD;
        }
        Task t = tasks[task - 1];
        switch (what) {
            case 0:
                return t.procedure[k];
            case 1:
                return t.place[k];
            case 2:
            case 3:
            case 4:
                return t.locals[k * LOCALS + what - 2];
            default:
                return BAD;
        }
    }

    public int global(int g) {
        return isWithin(g, GLOBALS) ? globals[g] : 0;
    }

    public int typeOf(int object) {
        return objects.has(object) ? objects.type[object] : BAD;
    }

    public int field(int object, int f) {
        return objects.has(object) && isWithin(f, MOST_FIELDS) ? objects.cells[object * MOST_FIELDS + f] : 0;
    }

    public int heap() {
        return objects.count();
    }

    public int collect() {
        return dropUnreachable();
    }

    private static boolean isWithin(int x, int bound) {
        return x >= 0 && x < bound;
    }

    private boolean isTask(int task) {
        return task >= 1 && task <= begun;
    }

    private boolean draftChanges(int p) {
        return !draft.hasSameProcedure(present, p) || present.usesTouchedType(p, rules.touched);
    }

    private int firstTaskInTheWay(int from) {
        for (int task = Math.max(from, 1); task <= begun; task++) {
            if (isInTheWay(tasks[task - 1])) {
                return task;
            }
        }
        return 0;
    }

    private boolean isInTheWay(Task t) {
        for (int k = 0; k < t.depth; k++) {
            boolean canMove = k == t.depth - 1 && placeInDraft(t) != NONE;
            if (draftChanges(t.procedure[k]) && !canMove) {
                return true;
            }
        }
        return false;
    }

    /** Where the draft has the point that the top frame is at; NONE when it is at none or the draft has none such. */
    private int placeInDraft(Task t) {
        int p = t.procedure[t.depth - 1];
        int w = Version.at(p, t.place[t.depth - 1]);
        return present.op[w] == POINT ? draft.firstPoint(p, present.a[w]) : NONE;
    }

    private void takeThePlace() {
        moveFrames();
        present.copyFrom(draft);
        rules.forgetAll();
        number++;
        staged = false;
    }

    /** Needs both versions, and comes before the draft is copied for that; no frame stands in the way here. */
    private void moveFrames() {
        for (int i = 0; i < begun; i++) {
            Task t = tasks[i];
            if (t.depth > 0 && draftChanges(t.procedure[t.depth - 1])) {
                t.place[t.depth - 1] = placeInDraft(t);
            }
        }
    }

    private int dropUnreachable() {
        objects.unmarkAll();
        for (int g = 0; g < GLOBALS; g++) {
            objects.mark(globals[g]);
        }
        for (int i = 0; i < begun; i++) {
            Task t = tasks[i];
            for (int x = 0; x < t.depth * LOCALS; x++) {
                objects.mark(t.locals[x]);
            }
        }
        objects.markFromMarked();
        return objects.dropUnmarked();
    }

    private void perform(Task t) {
        int top = t.depth - 1;
        int w = Version.at(t.procedure[top], t.place[top]);
        if (present.op[w] == WAIT && t.queued == 0) {
            t.condition = WAITING;
            return;
        }
        t.place[top]++;
        int a = present.a[w];
        int b = present.b[w];
        int c = present.c[w];
        switch (present.op[w]) {
            case RETURN:
                t.giveBack(t.local(a));
                break;
            case SET:
                t.setLocal(a, b);
                break;
            case ADD:
                t.setLocal(a, t.local(b) + t.local(c));
                break;
            case SUB:
                t.setLocal(a, t.local(b) - t.local(c));
                break;
            case JUMP:
                t.place[top] = t.local(a) == 0 ? b : t.place[top];
                break;
            case CALL:
                call(t, a, b, c);
                break;
            case NEW:
                makeObject(t, a, b);
                break;
            case GET:
                get(t, a, b, c);
                break;
            case PUT:
                put(t, a, b, c);
                break;
            case LOAD:
                t.setLocal(a, globals[b]);
                break;
            case KEEP:
                globals[b] = t.local(a);
                break;
            case WAIT:
                t.setLocal(a, t.takeOldest());
                break;
            default:
                break;
        }
    }

    private static void call(Task t, int a, int b, int c) {
        if (t.depth >= MOST_FRAMES) {
            t.fail();
        } else {
            t.push(b, t.local(c), a);
        }
    }

    private void makeObject(Task t, int a, int b) {
        if (objects.leastFree() == NONE) {
            dropUnreachable();
        }
        int object = objects.leastFree();
        if (object == NONE) {
            t.fail();
        } else {
            objects.begin(object, b);
            t.setLocal(a, object);
        }
    }

    private void get(Task t, int a, int b, int c) {
        int cell = objects.cellOf(t.local(b), c);
        if (cell == NONE) {
            t.fail();
        } else {
            t.setLocal(a, objects.cells[cell]);
        }
    }

    private void put(Task t, int a, int b, int c) {
        int cell = objects.cellOf(t.local(a), c);
        if (cell == NONE) {
            t.fail();
        } else {
            objects.cells[cell] = t.local(b);
        }
    }

    /** Procedures and types; only what has been found right is ever run. */
    private static final class Version {
        final int[] length = new int[PROCEDURES];
        final int[] op = new int[PROCEDURES * LONGEST];
        final int[] a = new int[PROCEDURES * LONGEST];
        final int[] b = new int[PROCEDURES * LONGEST];
        final int[] c = new int[PROCEDURES * LONGEST];
        final int[] fieldCount = new int[TYPES];

        static int at(int p, int i) {
            return p * LONGEST + i;
        }

        boolean hasProcedure(int p) {
            return isWithin(p, PROCEDURES) && length[p] > 0;
        }

        void write(int p, int i, int newOp, int newA, int newB, int newC) {
            int w = at(p, i);
            op[w] = newOp;
            a[w] = newA;
            b[w] = newB;
            c[w] = newC;
            length[p] = Math.max(length[p], i + 1);
        }

        void copyFrom(Version other) {
            System.arraycopy(other.length, 0, length, 0, length.length);
            System.arraycopy(other.op, 0, op, 0, op.length);
            System.arraycopy(other.a, 0, a, 0, a.length);
            System.arraycopy(other.b, 0, b, 0, b.length);
            System.arraycopy(other.c, 0, c, 0, c.length);
            System.arraycopy(other.fieldCount, 0, fieldCount, 0, fieldCount.length);
        }

        boolean hasSameProcedure(Version other, int p) {
            if (length[p] != other.length[p]) {
                return false;
            }
            for (int w = at(p, 0); w < at(p, length[p]); w++) {
                if (op[w] != other.op[w] || a[w] != other.a[w] || b[w] != other.b[w] || c[w] != other.c[w]) {
                    return false;
                }
            }
            return true;
        }

        boolean usesTouchedType(int p, boolean[] touched) {
            for (int w = at(p, 0); w < at(p, length[p]); w++) {
                int t = typeUsed(w);
                if (t != NONE && touched[t]) {
                    return true;
                }
            }
            return false;
        }

        private int typeUsed(int w) {
            switch (op[w]) {
                case NEW:
                    return b[w];
                case GET:
                case PUT:
                    return c[w] / MOST_FIELDS;
                default:
                    return NONE;
            }
        }

        int firstPoint(int p, int point) {
            for (int i = 0; i < length[p]; i++) {
                if (op[at(p, i)] == POINT && a[at(p, i)] == point) {
                    return i;
                }
            }
            return NONE;
        }

        int firstWrongWord() {
            for (int p = 0; p < PROCEDURES; p++) {
                for (int i = 0; i < length[p]; i++) {
                    int w = at(p, i);
                    boolean endsWrong = i == length[p] - 1 && op[w] != RETURN;
                    if (endsWrong || !isRight(p, w)) {
                        return w;
                    }
                }
            }
            return NONE;
        }

        private boolean isRight(int p, int w) {
            switch (op[w]) {
                case RETURN:
                case SET:
                case WAIT:
                    return isLocal(a[w]);
                case ADD:
                case SUB:
                    return isLocal(a[w]) && isLocal(b[w]) && isLocal(c[w]);
                case JUMP:
                    return isLocal(a[w]) && isWithin(b[w], length[p]);
                case CALL:
                    return isLocal(a[w]) && hasProcedure(b[w]) && isLocal(c[w]);
                case NEW:
                    return isLocal(a[w]) && isWithin(b[w], TYPES) && fieldCount[b[w]] > 0;
                case GET:
                case PUT:
                    return isLocal(a[w]) && isLocal(b[w]) && isFieldOfType(c[w]);
                case LOAD:
                case KEEP:
                    return isLocal(a[w]) && isWithin(b[w], GLOBALS);
                case POINT:
                    return isWithin(a[w], POINTS);
                default:
                    return false;
            }
        }

        private static boolean isLocal(int x) {
            return isWithin(x, LOCALS);
        }

        private boolean isFieldOfType(int x) {
            return isWithin(x, TYPES * MOST_FIELDS) && x % MOST_FIELDS < fieldCount[x / MOST_FIELDS];
        }
    }

    /** How the draft makes objects over, and for which types fields() or rule() has done something. */
    private static final class Rules {
        final boolean[] touched = new boolean[TYPES];
        private final int[] kind = new int[TYPES * MOST_FIELDS];
        private final int[] from = new int[TYPES * MOST_FIELDS];
        private final int[] k = new int[TYPES * MOST_FIELDS];

        void write(int t, int f, int newKind, int newFrom, int newK) {
            int r = t * MOST_FIELDS + f;
            kind[r] = newKind;
            from[r] = newFrom;
            k[r] = newK;
        }

        void forgetType(int t) {
            for (int f = 0; f < MOST_FIELDS; f++) {
                write(t, f, CONSTANT, 0, 0);
            }
        }

        void forgetAll() {
            for (int t = 0; t < TYPES; t++) {
                forgetType(t);
                touched[t] = false;
            }
        }

        /** Every type that has rules is a changed one, as rule() alone makes them. */
        int firstWithoutSource(Version old, Version next) {
            for (int t = 0; t < TYPES; t++) {
                for (int f = 0; f < next.fieldCount[t]; f++) {
                    int r = t * MOST_FIELDS + f;
                    if (kind[r] != CONSTANT && from[r] >= old.fieldCount[t]) {
                        return r;
                    }
                }
            }
            return NONE;
        }

        boolean isFaulty(int r, int[] cells, int first) {
            return kind[r] == DIVIDED && cells[first + from[r]] == 0;
        }

        /** Asked only where isFaulty() is false. */
        int valueOf(int r, int[] cells, int first) {
            int old = cells[first + from[r]];
            switch (kind[r]) {
                case PLUS:
                    return old + k[r];
                case DIVIDED:
                    return old == 0 ? 0 : k[r] / old;
                default:
                    return k[r];
            }
        }
    }

    /** Objects by number; row 0 stays unused. Cells beyond a type's fields are always 0, which is no object. */
    private static final class Heap {
        final int[] type = new int[OBJECTS + 1];
        final int[] cells = new int[(OBJECTS + 1) * MOST_FIELDS];
        private final int[] madeOver = new int[(OBJECTS + 1) * MOST_FIELDS];
        private final boolean[] marked = new boolean[OBJECTS + 1];
        private final int[] found = new int[OBJECTS];
        private int foundCount;

        Heap() {
            for (int o = 0; o <= OBJECTS; o++) {
                type[o] = NONE;
            }
        }

        boolean has(int o) {
            return o >= 1 && o <= OBJECTS && type[o] != NONE;
        }

        int count() {
            int sum = 0;
            for (int o = 1; o <= OBJECTS; o++) {
                sum += has(o) ? 1 : 0;
            }
            return sum;
        }

        int leastFree() {
            for (int o = 1; o <= OBJECTS; o++) {
                if (!has(o)) {
                    return o;
                }
            }
            return NONE;
        }

        void begin(int o, int t) {
            type[o] = t;
            for (int f = 0; f < MOST_FIELDS; f++) {
                cells[o * MOST_FIELDS + f] = 0;
            }
        }

        /** The cell that GET and PUT mean by their c; NONE when that is a fault. */
        int cellOf(int o, int c) {
            return has(o) && type[o] == c / MOST_FIELDS ? o * MOST_FIELDS + c % MOST_FIELDS : NONE;
        }

        void unmarkAll() {
            foundCount = 0;
            for (int o = 0; o <= OBJECTS; o++) {
                marked[o] = false;
            }
        }

        void mark(int value) {
            if (has(value) && !marked[value]) {
                marked[value] = true;
                found[foundCount] = value;
                foundCount++;
            }
        }

        /** The row of found objects grows as it is gone through, by each object once at most. */
        void markFromMarked() {
            for (int i = 0; i < foundCount && i < OBJECTS; i++) {
                for (int f = 0; f < MOST_FIELDS; f++) {
                    mark(cells[found[i] * MOST_FIELDS + f]);
                }
            }
        }

        int dropUnmarked() {
            int gone = 0;
            for (int o = 1; o <= OBJECTS; o++) {
                if (has(o) && !marked[o]) {
                    type[o] = NONE;
                    gone++;
                }
            }
            return gone;
        }

        /** Works on a copy, so that a fault or too little fuel leaves every object as it was. */
        boolean makeOver(Rules rules, Version next, int fuel) {
            System.arraycopy(cells, 0, madeOver, 0, cells.length);
            int left = fuel;
            for (int o = 1; o <= OBJECTS; o++) {
                if (has(o) && rules.touched[type[o]]) {
                    int cost = next.fieldCount[type[o]];
                    if (left < cost || !makeOverOne(o, rules)) {
                        return false;
                    }
                    left -= cost;
                }
            }
            System.arraycopy(madeOver, 0, cells, 0, cells.length);
            return true;
        }

        /** Goes through the cells beyond the draft's fields, too: having no rules, they become 0. */
        private boolean makeOverOne(int o, Rules rules) {
            int first = o * MOST_FIELDS;
            for (int f = 0; f < MOST_FIELDS; f++) {
                int r = type[o] * MOST_FIELDS + f;
                if (rules.isFaulty(r, cells, first)) {
                    return false;
                }
                madeOver[first + f] = rules.valueOf(r, cells, first);
            }
            return true;
        }
    }

    /** A task with its frames, the lowest one at 0, and its queue, the oldest int at 0. */
    private static final class Task {
        final int[] procedure = new int[MOST_FRAMES];
        final int[] place = new int[MOST_FRAMES];
        final int[] locals = new int[MOST_FRAMES * LOCALS];
        private final int[] answerLocal = new int[MOST_FRAMES];
        private final int[] queue = new int[QUEUE];
        int depth;
        int queued;
        int condition;
        int outcome;

        int local(int x) {
            return locals[(depth - 1) * LOCALS + x];
        }

        void setLocal(int x, int v) {
            locals[(depth - 1) * LOCALS + x] = v;
        }

        /** The frame keeps which local below it answers into, as the call made it. */
        void push(int p, int argument, int answersInto) {
            procedure[depth] = p;
            place[depth] = 0;
            answerLocal[depth] = answersInto;
            depth++;
            setLocal(0, argument);
            for (int x = 1; x < LOCALS; x++) {
                setLocal(x, 0);
            }
        }

        void giveBack(int v) {
            depth--;
            if (depth == 0) {
                condition = ENDED;
                outcome = v;
            } else {
                setLocal(answerLocal[depth], v);
            }
        }

        void fail() {
            depth = 0;
            condition = FAULT;
        }

        void enqueue(int v) {
            queue[queued] = v;
            queued++;
        }

        int takeOldest() {
            int oldest = queue[0];
            for (int i = 1; i < queued; i++) {
                queue[i - 1] = queue[i];
            }
            queued--;
            return oldest;
        }
    }
}
