import java.util.ArrayDeque;
import java.util.ArrayList;
import java.util.Deque;
import java.util.HashMap;
import java.util.List;
import java.util.Map;
import java.util.Set;
import java.util.TreeMap;
import java.util.TreeSet;

/** The document written a second time, in the Java library's collections and with no care for room or speed. */
final class PlainModel {
    record Word(int op, int a, int b, int c) {
    }

    record Rule(int kind, int from, int k) {
    }

    static final class Version {
        final List<List<Word>> procedures = new ArrayList<>();
        final int[] fields = new int[3];

        Version() {
            for (int p = 0; p < 6; p++) {
                procedures.add(new ArrayList<>());
            }
        }

        Version copy() {
            Version v = new Version();
            for (int p = 0; p < 6; p++) {
                v.procedures.get(p).addAll(procedures.get(p));
            }
            System.arraycopy(fields, 0, v.fields, 0, 3);
            return v;
        }

        List<Word> words(int p) {
            return procedures.get(p);
        }
    }

    static final class Obj {
        int type;
        int[] values;

        Obj(int type, int[] values) {
            this.type = type;
            this.values = values;
        }
    }

    static final class Frame {
        final int procedure;
        int place;
        final int[] locals = new int[3];

        Frame(int procedure, int argument) {
            this.procedure = procedure;
            locals[0] = argument;
        }
    }

    static final class Task {
        final List<Frame> frames = new ArrayList<>();
        final Deque<Integer> queue = new ArrayDeque<>();
        int state;
        int result;

        Frame top() {
            return frames.get(frames.size() - 1);
        }
    }

    Version present = new Version();
    Version draft = new Version();
    final Map<Integer, Rule> rules = new HashMap<>();
    final Set<Integer> called = new TreeSet<>();
    final TreeMap<Integer, Obj> objects = new TreeMap<>();
    final int[] globals = new int[4];
    final List<Task> tasks = new ArrayList<>();
    int version;
    boolean staged;

    int word(int p, int i, int op, int a, int b, int c) {
        if (p < 0 || p > 5 || i < 0 || i > draft.words(p).size() || i == 12) {
            return -1;
        }
        if (staged) {
            return -2;
        }
        if (i == draft.words(p).size()) {
            draft.words(p).add(null);
        }
        draft.words(p).set(i, new Word(op, a, b, c));
        return draft.words(p).size();
    }

    boolean cut(int p, int n) {
        if (p < 0 || p > 5 || n < 0 || n > draft.words(p).size() || staged) {
            return false;
        }
        draft.words(p).subList(n, draft.words(p).size()).clear();
        return true;
    }

    boolean fields(int t, int n) {
        if (t < 0 || t > 2 || n < 0 || n > 4 || staged) {
            return false;
        }
        called.add(t);
        draft.fields[t] = n;
        for (int f = 0; f < 4; f++) {
            rules.remove(4 * t + f);
        }
        return true;
    }

    int rule(int t, int f, int kind, int from, int k) {
        if (t < 0 || t > 2 || f < 0 || f >= draft.fields[t] || kind < 0 || kind > 2 || from < 0 || from > 3) {
            return -1;
        }
        if (staged) {
            return -2;
        }
        called.add(t);
        rules.put(4 * t + f, new Rule(kind, from, k));
        return 0;
    }

    boolean reset() {
        if (staged) {
            return false;
        }
        draft = present.copy();
        rules.clear();
        called.clear();
        return true;
    }

    int stage() {
        if (staged) {
            return -2;
        }
        for (int p = 0; p < 6; p++) {
            List<Word> words = draft.words(p);
            for (int i = 0; i < words.size(); i++) {
                if (!right(words.get(i), words.size()) || i == words.size() - 1 && words.get(i).op() != 0) {
                    return -100 - (12 * p + i);
                }
            }
        }
        for (int r = 0; r < 12; r++) {
            Rule rule = rules.get(r);
            if (rule != null && called.contains(r / 4) && rule.kind() > 0 && rule.from() >= present.fields[r / 4]) {
                return -200 - r;
            }
        }
        staged = true;
        return 0;
    }

    /** Which of a, b and c are locals, by op. */
    private static final String[] LOCALS = {"a", "a", "abc", "abc", "a", "ac", "a", "ab", "ab", "a", "a", "a", ""};

    boolean right(Word w, int length) {
        if (w.op() < 0 || w.op() > 12) {
            return false;
        }
        String locals = LOCALS[w.op()];
        int[] values = {w.a(), w.b(), w.c()};
        for (int j = 0; j < 3; j++) {
            if (locals.indexOf("abc".charAt(j)) >= 0 && (values[j] < 0 || values[j] > 2)) {
                return false;
            }
        }
        switch (w.op()) {
            case 4:
                return 0 <= w.b() && w.b() < length;
            case 5:
                return 0 <= w.b() && w.b() <= 5 && !draft.words(w.b()).isEmpty();
            case 6:
                return 0 <= w.b() && w.b() <= 2 && draft.fields[w.b()] > 0;
            case 7:
            case 8:
                return 0 <= w.c() && w.c() / 4 <= 2 && w.c() % 4 < draft.fields[w.c() / 4];
            case 9:
            case 10:
                return 0 <= w.b() && w.b() <= 3;
            case 12:
                return 0 <= w.a() && w.a() <= 3;
            default:
                return true;
        }
    }

    boolean withdraw() {
        boolean was = staged;
        staged = false;
        return was;
    }

    boolean changed(int p) {
        return staged && p >= 0 && p <= 5 && isChanged(p);
    }

    private boolean isChanged(int p) {
        if (!present.words(p).equals(draft.words(p))) {
            return true;
        }
        for (Word w : present.words(p)) {
            if (w.op() == 6 && called.contains(w.b())) {
                return true;
            }
            if ((w.op() == 7 || w.op() == 8) && called.contains(w.c() / 4)) {
                return true;
            }
        }
        return false;
    }

    private int draftPoint(int p, int a) {
        for (int i = 0; i < draft.words(p).size(); i++) {
            Word w = draft.words(p).get(i);
            if (w.op() == 12 && w.a() == a) {
                return i;
            }
        }
        return -1;
    }

    private boolean inTheWay(Task t, Frame f) {
        if (!isChanged(f.procedure)) {
            return false;
        }
        Word next = present.words(f.procedure).get(f.place);
        return f != t.top() || next.op() != 12 || draftPoint(f.procedure, next.a()) < 0;
    }

    int blocker(int from) {
        if (!staged) {
            return 0;
        }
        for (int n = 1; n <= tasks.size(); n++) {
            for (Frame f : tasks.get(n - 1).frames) {
                if (n >= from && inTheWay(tasks.get(n - 1), f)) {
                    return n;
                }
            }
        }
        return 0;
    }

    int attempt(int fuel) {
        if (fuel < 0) {
            return -1;
        }
        if (!staged) {
            return 3;
        }
        if (blocker(1) != 0) {
            return 0;
        }
        collect();
        Map<Integer, int[]> made = new TreeMap<>();
        int left = fuel;
        for (Map.Entry<Integer, Obj> e : objects.entrySet()) {
            if (called.contains(e.getValue().type)) {
                int[] values = new int[draft.fields[e.getValue().type]];
                for (int f = 0; f < values.length; f++) {
                    Rule r = rules.getOrDefault(4 * e.getValue().type + f, new Rule(0, 0, 0));
                    left--;
                    if (left < 0 || r.kind() == 2 && e.getValue().values[r.from()] == 0) {
                        return 2;
                    }
                    values[f] = r.kind() == 0 ? r.k() : r.kind() == 1 ? e.getValue().values[r.from()] + r.k()
                        : r.k() / e.getValue().values[r.from()];
                }
                made.put(e.getKey(), values);
            }
        }
        for (Map.Entry<Integer, int[]> e : made.entrySet()) {
            objects.get(e.getKey()).values = e.getValue();
        }
        for (Task t : tasks) {
            for (Frame f : t.frames) {
                if (isChanged(f.procedure)) {
                    f.place = draftPoint(f.procedure, present.words(f.procedure).get(f.place).a());
                }
            }
        }
        present = draft;
        draft = present.copy();
        rules.clear();
        called.clear();
        version++;
        staged = false;
        return 1;
    }

    int spawn(int p, int argument) {
        if (p < 0 || p > 5 || present.words(p).isEmpty()) {
            return -1;
        }
        if (tasks.size() == 6) {
            return -3;
        }
        Task t = new Task();
        t.frames.add(new Frame(p, argument));
        tasks.add(t);
        return tasks.size();
    }

    private Task task(int n) {
        return n >= 1 && n <= tasks.size() ? tasks.get(n - 1) : null;
    }

    int step(int task, int n) {
        Task t = task(task);
        if (t == null || n < 1 || n > 200) {
            return -1;
        }
        if (t.state >= 2) {
            return t.state;
        }
        t.state = 0;
        for (int i = 0; i < n && t.state == 0; i++) {
            one(t);
        }
        if (t.state == 3) {
            t.frames.clear();
        }
        return t.state;
    }

    private void one(Task t) {
        Frame f = t.top();
        int[] l = f.locals;
        Word w = present.words(f.procedure).get(f.place);
        int next = f.place + 1;
        switch (w.op()) {
            case 0:
                t.frames.remove(t.frames.size() - 1);
                if (t.frames.isEmpty()) {
                    t.state = 2;
                    t.result = l[w.a()];
                } else {
                    Frame below = t.top();
                    below.locals[present.words(below.procedure).get(below.place - 1).a()] = l[w.a()];
                }
                break;
            case 1:
                l[w.a()] = w.b();
                break;
            case 2:
                l[w.a()] = l[w.b()] + l[w.c()];
                break;
            case 3:
                l[w.a()] = l[w.b()] - l[w.c()];
                break;
            case 4:
                next = l[w.a()] == 0 ? w.b() : next;
                break;
            case 5:
                if (t.frames.size() == 6) {
                    t.state = 3;
                } else {
                    t.frames.add(new Frame(w.b(), l[w.c()]));
                }
                break;
            case 6:
                if (objects.size() == 16) {
                    collect();
                }
                int number = 1;
                while (objects.containsKey(number)) {
                    number++;
                }
                if (number > 16) {
                    t.state = 3;
                } else {
                    objects.put(number, new Obj(w.b(), new int[present.fields[w.b()]]));
                    l[w.a()] = number;
                }
                break;
            case 7:
            case 8:
                Obj o = objects.get(l[w.op() == 7 ? w.b() : w.a()]);
                if (o == null || o.type != w.c() / 4) {
                    t.state = 3;
                } else if (w.op() == 7) {
                    l[w.a()] = o.values[w.c() % 4];
                } else {
                    o.values[w.c() % 4] = l[w.b()];
                }
                break;
            case 9:
                l[w.a()] = globals[w.b()];
                break;
            case 10:
                globals[w.b()] = l[w.a()];
                break;
            case 11:
                if (t.queue.isEmpty()) {
                    t.state = 1;
                    next = f.place;
                } else {
                    l[w.a()] = t.queue.removeFirst();
                }
                break;
            default:
                break;
        }
        f.place = next;
    }

    int send(int task, int v) {
        Task t = task(task);
        if (t == null) {
            return -1;
        }
        if (t.state >= 2) {
            return -2;
        }
        if (t.queue.size() == 8) {
            return -3;
        }
        t.queue.addLast(v);
        return t.queue.size();
    }

    int state(int task) {
        return task(task) == null ? -1 : task(task).state;
    }

    int result(int task) {
        return task(task) == null ? 0 : task(task).result;
    }

    int frames(int task) {
        return task(task) == null ? -1 : task(task).frames.size();
    }

    int frame(int task, int k, int what) {
        Task t = task(task);
        if (t == null || k < 0 || k >= t.frames.size() || what < 0 || what > 4) {
            return -1;
        }
        Frame f = t.frames.get(k);
        return what == 0 ? f.procedure : what == 1 ? f.place : f.locals[what - 2];
    }

    int global(int g) {
        return g < 0 || g > 3 ? 0 : globals[g];
    }

    int typeOf(int object) {
        return objects.containsKey(object) ? objects.get(object).type : -1;
    }

    int field(int object, int f) {
        Obj o = objects.get(object);
        return o == null || f < 0 || f >= o.values.length ? 0 : o.values[f];
    }

    int heap() {
        return objects.size();
    }

    int collect() {
        Set<Integer> reachable = new TreeSet<>();
        for (int g : globals) {
            reachable.add(g);
        }
        for (Task t : tasks) {
            for (Frame f : t.frames) {
                for (int v : f.locals) {
                    reachable.add(v);
                }
            }
        }
        int before = -1;
        while (before != reachable.size()) {
            before = reachable.size();
            for (Map.Entry<Integer, Obj> e : objects.entrySet()) {
                if (reachable.contains(e.getKey())) {
                    for (int v : e.getValue().values) {
                        reachable.add(v);
                    }
                }
            }
        }
        int count = objects.size();
        objects.keySet().retainAll(reachable);
        return count - objects.size();
    }
}
