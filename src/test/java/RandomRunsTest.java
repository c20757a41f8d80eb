import java.util.Arrays;
import java.util.Random;

/** Runs of at most 512 random calls on an object and on PlainModel: every answer is the same, and nothing is thrown. */
public final class RandomRunsTest {
    private static final int RUNS = 15000;
    private static final int CALLS = 512;
    private static final Due DUE = new Due();
    /** What the runs have come through: a generator that reaches too little would prove nothing. */
    private static final int[] ATTEMPTS = new int[5];
    private static final int[] STEPS = new int[5];
    private static int moved;

    private final Random random;
    private final SwitchedModules x = new SwitchedModules();
    private final PlainModel m = new PlainModel();
    private final int seed;
    /** How often an argument is drawn from anywhere; some runs have none such, so that they get far. */
    private final int wildness;
    private int calls;

    private RandomRunsTest(int seed) {
        this.seed = seed;
        this.random = new Random(seed);
        this.wildness = seed % 3 == 0 ? 0 : seed % 3 == 1 ? 2 : 15;
    }

    public static void main(String[] args) {
        for (int seed = 0; seed < RUNS; seed++) {
            new RandomRunsTest(seed).run();
        }
        for (int answer = 0; answer < 4; answer++) {
            DUE.is("attempts that answer " + answer + " are many", ATTEMPTS[answer] > 2000, true);
            DUE.is("steps that answer " + answer + " are many", STEPS[answer] > 2000, true);
        }
        System.out.println("attempts " + Arrays.toString(ATTEMPTS) + ", steps " + Arrays.toString(STEPS)
            + ", frames moved " + moved);
        DUE.is("frames that move are many", moved > 1000, true);
        DUE.end();
    }

    private void due(String call, long got, long want, int... arguments) {
        calls++;
        if (got != want) {
            StringBuilder text = new StringBuilder("seed " + seed + ", call " + calls + ": " + call);
            for (int a : arguments) {
                text.append(' ').append(a);
            }
            DUE.is(text.toString(), got, want);
        } else {
            DUE.is(call, got, want);
        }
    }

    private static int bit(boolean b) {
        return b ? 1 : 0;
    }

    /** Mostly low .. high, now and then beyond. */
    private int pick(int low, int high) {
        if (random.nextInt(100) < wildness) {
            int[] wild = {low - 1, high + 1, Integer.MIN_VALUE, Integer.MAX_VALUE, -4, 12, 16, random.nextInt()};
            return wild[random.nextInt(wild.length)];
        }
        return low + random.nextInt(high - low + 1);
    }

    private int value() {
        return random.nextInt(20) == 0 ? pick(Integer.MIN_VALUE, -2) : random.nextInt(12) - 2;
    }

    private void run() {
        types();
        for (int p = 0; p < 6; p++) {
            procedure(p);
        }
        while (calls < CALLS - 20) {
            something();
        }
    }

    private void something() {
        int kind = random.nextInt(100);
        if (kind < 34) {
            runTasks();
        } else if (kind < 46) {
            switchOver();
        } else if (kind < 56) {
            changeDraft();
        } else {
            look();
        }
    }

    private void types() {
        for (int t = 0; t < 3; t++) {
            fields(t, random.nextInt(4) == 0 ? 0 : 1 + random.nextInt(4));
        }
    }

    private void fields(int t, int n) {
        due("fields", bit(x.fields(t, n)), bit(m.fields(t, n)), t, n);
    }

    private void procedure(int p) {
        int length = 1 + random.nextInt(12);
        for (int i = 0; i < length - 1; i++) {
            word(p, i, length);
        }
        write(p, length - 1, 0, pick(0, 2), 0, 0);
        if (length > 4 && random.nextInt(4) > 0) {
            // A loop keeps tasks alive, so that switches find them under way.
            write(p, length - 3, 1, 2, 0, 0);
            write(p, length - 2, 4, 2, 0, 0);
        }
        due("cut", bit(x.cut(p, length)), bit(m.cut(p, length)), p, length);
    }

    private void word(int p, int i, int length) {
        int[] likely = {1, 1, 2, 3, 4, 5, 6, 6, 6, 7, 8, 9, 10, 10, 11, 11, 11, 12, 12, 12, 12};
        int op = random.nextInt(200) < wildness ? pick(0, 12) : likely[random.nextInt(likely.length)];
        int a = op == 12 && random.nextInt(3) == 0 ? pick(0, 3) : op == 12 ? pick(0, 1) : pick(0, 2);
        int b = pick(0, 2);
        int c = pick(0, 2);
        if (op == 1) {
            b = value();
        } else if (op == 4) {
            b = pick(0, length - 1);
        } else if (op == 5) {
            b = random.nextInt(4) == 0 ? pick(0, 5) : pick(Math.min(p + 1, 5), 5);
        } else if (op == 7 || op == 8) {
            c = 4 * pick(0, 2) + random.nextInt(2);
        } else if (op >= 9 && op <= 10) {
            b = pick(0, 3);
        }
        PlainModel.Word before = i > 0 && i <= m.draft.words(p).size() ? m.draft.words(p).get(i - 1) : null;
        if (before != null && before.op() == 6 && random.nextInt(3) > 0) {
            // What follows a NEW uses the new object, or most tasks would have a fault soon.
            op = random.nextBoolean() ? 10 : random.nextInt(5) == 0 ? 7 : 8;
            a = op == 7 ? random.nextInt(3) : before.a();
            b = op == 7 ? before.a() : random.nextInt(3);
            c = 4 * before.b() + random.nextInt(3);
        }
        if (!m.right(new PlainModel.Word(op, a, b, c), length) && random.nextInt(100) >= wildness) {
            op = 12;
            a = random.nextInt(4);
        }
        write(p, i, op, a, b, c);
    }

    private void write(int p, int i, int op, int a, int b, int c) {
        due("word", x.word(p, i, op, a, b, c), m.word(p, i, op, a, b, c), p, i, op, a, b, c);
    }

    private void changeDraft() {
        int kind = random.nextInt(20);
        if (kind < 5) {
            int p = pick(0, 5);
            if (p >= 0 && p < 6) {
                int length = Math.max(1, m.draft.words(p).size());
                word(p, pick(0, Math.max(0, length - 2)), length);
            }
        } else if (kind < 7 && calls < CALLS - 40) {
            procedure(random.nextInt(6));
        } else if (kind < 9) {
            int p = pick(0, 5);
            int n = pick(0, 12);
            due("cut", bit(x.cut(p, n)), bit(m.cut(p, n)), p, n);
        } else if (kind < 12) {
            fields(pick(0, 2), pick(1, 4));
        } else if (kind < 19) {
            rule(pick(0, 2), pick(0, 3), pick(0, 2), pick(0, 3), value());
        } else {
            due("reset", bit(x.reset()), bit(m.reset()));
        }
    }

    private void rule(int t, int f, int kind, int from, int k) {
        due("rule", x.rule(t, f, kind, from, k), m.rule(t, f, kind, from, k), t, f, kind, from, k);
    }

    private void switchOver() {
        if (random.nextBoolean()) {
            rule(pick(0, 2), pick(0, 1), pick(1, 2), pick(0, 1), value());
        }
        int answer = m.stage();
        due("stage", x.stage(), answer);
        if (answer < -2 && random.nextInt(3) > 0) {
            mend(answer);
        }
        due("changed", bit(x.changed(3)), bit(m.changed(3)), 3);
        int from = pick(0, 6);
        due("blocker", x.blocker(from), m.blocker(from), from);
        int taken = attempt();
        for (int i = 0; i < 4 && taken == 0 && calls < CALLS - 20; i++) {
            step(m.blocker(1), 1);
            taken = attempt();
        }
        lookAtAll();
        if ((taken == 0 || taken == 2) && random.nextInt(3) == 0) {
            due("withdraw", bit(x.withdraw()), bit(m.withdraw()));
        }
    }

    private int attempt() {
        int fuel = random.nextBoolean() ? random.nextInt(12) : pick(0, 64);
        int places = places();
        int taken = m.attempt(fuel);
        due("attempt", x.attempt(fuel), taken, fuel);
        ATTEMPTS[taken < 0 ? 4 : taken]++;
        moved += places() != places ? 1 : 0;
        return taken;
    }

    /** Makes the instruction or rule that stage() has named a right one. */
    private void mend(int answer) {
        if (answer <= -200) {
            int r = -200 - answer;
            rule(r / 4, r % 4, 0, 0, value());
            return;
        }
        int p = (-100 - answer) / 12;
        int i = (-100 - answer) % 12;
        int op = i == m.draft.words(p).size() - 1 ? 0 : 12;
        write(p, i, op, 1, 0, 0);
    }

    private int places() {
        int sum = 0;
        for (PlainModel.Task t : m.tasks) {
            for (PlainModel.Frame f : t.frames) {
                sum = 31 * sum + f.place;
            }
        }
        return sum;
    }

    private void runTasks() {
        int kind = random.nextInt(20);
        int task = pick(1, Math.max(1, m.tasks.size()));
        if (m.tasks.isEmpty() || kind == 0) {
            int p = pick(0, 5);
            int v = value();
            due("spawn", x.spawn(p, v), m.spawn(p, v), p, v);
        } else if (kind < 7) {
            int v = value();
            due("send", x.send(task, v), m.send(task, v), task, v);
        } else {
            step(task, random.nextInt(12) == 0 ? pick(1, 200) : pick(1, 3));
        }
    }

    private void step(int task, int n) {
        int answer = m.step(task, n);
        due("step", x.step(task, n), answer, task, n);
        STEPS[answer < 0 ? 4 : answer]++;
    }

    private void look() {
        int n = pick(1, 6);
        int o = pick(1, 16);
        int k = pick(0, 5);
        int what = pick(0, 4);
        int g = pick(0, 3);
        int f = pick(0, 3);
        switch (random.nextInt(12)) {
            case 0:
                due("state", x.state(n), m.state(n), n);
                break;
            case 1:
                due("result", x.result(n), m.result(n), n);
                break;
            case 2:
                due("frames", x.frames(n), m.frames(n), n);
                break;
            case 3:
                due("frame", x.frame(n, k, what), m.frame(n, k, what), n, k, what);
                break;
            case 4:
                due("global", x.global(g), m.global(g), g);
                break;
            case 5:
                due("typeOf", x.typeOf(o), m.typeOf(o), o);
                break;
            case 6:
                due("field", x.field(o, f), m.field(o, f), o, f);
                break;
            case 7:
                due("changed", bit(x.changed(k)), bit(m.changed(k)), k);
                break;
            case 8:
                due("version", x.version(), m.version);
                break;
            case 9:
                due("collect", x.collect(), m.collect());
                break;
            case 10:
                due("withdraw", bit(x.withdraw()), bit(m.withdraw()));
                break;
            default:
                due("heap", x.heap(), m.heap());
                break;
        }
    }

    /** One field, one frame and what else a switch may have gone wrong with. */
    private void lookAtAll() {
        int o = m.objects.isEmpty() ? 1 : m.objects.firstKey();
        int f = random.nextInt(4);
        due("field", x.field(o, f), m.field(o, f), o, f);
        due("heap", x.heap(), m.heap());
        int n = 1 + random.nextInt(6);
        int k = Math.max(0, m.frames(n) - 1);
        due("frame", x.frame(n, k, 1), m.frame(n, k, 1), n, k, 1);
    }
}
