/** Promises 1 to 8: a new object, and the draft up to its staging. */
public final class DraftTest {
    private static final Due DUE = new Due();

    public static void main(String[] args) {
        newObject();
        word();
        wordWhenStaged();
        cut();
        fields();
        fieldsForgetRules();
        rule();
        reset();
        resetForgetsRulesAndChangedTypes();
        stageScansByProcedures();
        stageLooksAtLocals();
        stageLooksAtTheRest();
        stageLooksAtTypes();
        stageLooksAtRules();
        stageLooksAtWordsBeforeRules();
        withdraw();
        DUE.end();
    }

    private static void newObject() {
        SwitchedModules x = new SwitchedModules();
        DUE.is("1: version", x.version(), 0);
        DUE.is("1: heap", x.heap(), 0);
        DUE.is("1: collect", x.collect(), 0);
        DUE.is("1: blocker", x.blocker(0), 0);
        DUE.is("1: attempt", x.attempt(0), 3);
        DUE.is("1: withdraw", x.withdraw(), false);
        for (int p = -1; p <= 6; p++) {
            DUE.is("1: spawn", x.spawn(p, 0), Code.BAD);
            DUE.is("1: changed", x.changed(p), false);
        }
        for (int n = -1; n <= 17; n++) {
            DUE.is("1: state", x.state(n), Code.BAD);
            DUE.is("1: frames", x.frames(n), Code.BAD);
            DUE.is("1: result", x.result(n), 0);
            DUE.is("1: global", x.global(n), 0);
            DUE.is("1: typeOf", x.typeOf(n), Code.BAD);
            DUE.is("1: field", x.field(n, 0), 0);
        }
        DUE.is("1: cut to nothing", x.cut(0, 0), true);
        DUE.is("1: cut", x.cut(0, 1), false);
        DUE.is("1: stage", x.stage(), 0);
        for (int p = 0; p < 6; p++) {
            DUE.is("1: changed when staged", x.changed(p), false);
        }
        DUE.is("1: attempt when staged", x.attempt(0), 1);
    }

    private static void word() {
        SwitchedModules x = new SwitchedModules();
        DUE.is("2: procedure -1", x.word(-1, 0, 0, 0, 0, 0), Code.BAD);
        DUE.is("2: procedure 6", x.word(6, 0, 0, 0, 0, 0), Code.BAD);
        DUE.is("2: procedure MIN", x.word(Code.MIN, 0, 0, 0, 0, 0), Code.BAD);
        DUE.is("2: procedure MAX", x.word(Code.MAX, 0, 0, 0, 0, 0), Code.BAD);
        DUE.is("2: place -1", x.word(0, -1, 0, 0, 0, 0), Code.BAD);
        DUE.is("2: place MIN", x.word(0, Code.MIN, 0, 0, 0, 0), Code.BAD);
        DUE.is("2: place beyond", x.word(0, 1, 0, 0, 0, 0), Code.BAD);
        for (int i = 0; i < 12; i++) {
            DUE.is("2: one longer", x.word(5, i, 99, Code.MIN, Code.MAX, -1), i + 1);
        }
        DUE.is("2: place 12", x.word(5, 12, 0, 0, 0, 0), Code.BAD);
        DUE.is("2: place 13", x.word(5, 13, 0, 0, 0, 0), Code.BAD);
        DUE.is("2: written over", x.word(5, 0, 0, 0, 0, 0), 12);
        DUE.is("2: written over at the end", x.word(5, 11, 0, 0, 0, 0), 12);
        DUE.is("2: another procedure is as it was", x.word(4, 0, 0, 1, 0, 0), 1);
        DUE.is("2: the present version is as it was", x.spawn(4, 0), Code.BAD);
    }

    private static void wordWhenStaged() {
        SwitchedModules x = new SwitchedModules();
        Code.write(x, 0, Code.ret(0));
        x.stage();
        DUE.is("2: staged", x.word(0, 0, 0, 1, 0, 0), Code.NO);
        DUE.is("2: staged, at the end", x.word(0, 1, 0, 1, 0, 0), Code.NO);
        DUE.is("2: staged and no such place", x.word(0, 2, 0, 1, 0, 0), Code.BAD);
        DUE.is("2: staged and no such procedure", x.word(6, 0, 0, 1, 0, 0), Code.BAD);
        x.attempt(0);
        x.spawn(0, 7);
        x.step(1, 1);
        DUE.is("2: a refused word is not there", x.result(1), 7);
        DUE.is("2: after the switch", x.word(0, 0, 0, 2, 0, 0), 1);
    }

    private static void cut() {
        SwitchedModules x = new SwitchedModules();
        Code.write(x, 2, Code.set(0, 1), Code.set(0, 2), Code.ret(0));
        DUE.is("3: procedure -1", x.cut(-1, 0), false);
        DUE.is("3: procedure 6", x.cut(6, 0), false);
        DUE.is("3: procedure MAX", x.cut(Code.MAX, 0), false);
        DUE.is("3: n -1", x.cut(2, -1), false);
        DUE.is("3: n beyond", x.cut(2, 4), false);
        DUE.is("3: n is the length", x.cut(2, 3), true);
        DUE.is("3: length then", x.word(2, 3, 0, 0, 0, 0), 4);
        DUE.is("3: one", x.cut(2, 1), true);
        DUE.is("3: beyond the new length", x.cut(2, 2), false);
        DUE.is("3: last is no RETURN", x.stage(), -124);
        DUE.is("3: grows from there", x.word(2, 1, 0, 0, 0, 0), 2);
        DUE.is("3: stage", x.stage(), 0);
        DUE.is("3: staged", x.cut(2, 0), false);
        DUE.is("3: staged, the same length", x.cut(2, 2), false);
        x.attempt(0);
        x.spawn(2, 0);
        x.step(1, 9);
        DUE.is("3: the first instructions are kept", x.result(1), 1);
    }

    private static void fields() {
        SwitchedModules x = new SwitchedModules();
        DUE.is("4: type -1", x.fields(-1, 1), false);
        DUE.is("4: type 3", x.fields(3, 1), false);
        DUE.is("4: type MIN", x.fields(Code.MIN, 1), false);
        DUE.is("4: n -1", x.fields(0, -1), false);
        DUE.is("4: n 5", x.fields(0, 5), false);
        for (int n = 0; n <= 4; n++) {
            DUE.is("4: n", x.fields(2, n), true);
            DUE.is("4: the last field", x.rule(2, n - 1, 0, 0, 0), n == 0 ? Code.BAD : 0);
            DUE.is("4: beyond", x.rule(2, n, 0, 0, 0), Code.BAD);
        }
        x.stage();
        DUE.is("4: staged", x.fields(2, 4), false);
        DUE.is("4: staged, none", x.fields(1, 0), false);
        x.withdraw();
        DUE.is("4: not staged any more", x.fields(1, 1), true);
    }

    private static void fieldsForgetRules() {
        SwitchedModules x = Code.running(Code.make(0, 0), Code.keep(0, 0), Code.ret(0));
        x.spawn(0, 0);
        x.step(1, 9);
        x.fields(0, 2);
        x.rule(0, 0, 0, 0, 9);
        x.rule(0, 1, 1, 3, 9);
        DUE.is("4: a rule that is wrong", x.stage(), -201);
        DUE.is("4: no rules any more", x.fields(0, 2), true);
        DUE.is("4: staged without rules", x.stage(), 0);
        DUE.is("4: attempt", x.attempt(2), 1);
        DUE.is("4: made over without rules", x.field(1, 0), 0);
        x.fields(0, 2);
        x.rule(0, 0, 0, 0, 8);
        DUE.is("4: refused", x.fields(0, 5), false);
        Code.switchOver(x);
        DUE.is("4: a refused call keeps the rules", x.field(1, 0), 8);
    }

    private static void rule() {
        SwitchedModules x = new SwitchedModules();
        x.fields(1, 2);
        DUE.is("5: type -1", x.rule(-1, 0, 0, 0, 0), Code.BAD);
        DUE.is("5: type 3", x.rule(3, 0, 0, 0, 0), Code.BAD);
        DUE.is("5: type not there", x.rule(0, 0, 0, 0, 0), Code.BAD);
        DUE.is("5: field -1", x.rule(1, -1, 0, 0, 0), Code.BAD);
        DUE.is("5: field 2", x.rule(1, 2, 0, 0, 0), Code.BAD);
        DUE.is("5: kind -1", x.rule(1, 0, -1, 0, 0), Code.BAD);
        DUE.is("5: kind 3", x.rule(1, 0, 3, 0, 0), Code.BAD);
        DUE.is("5: from -1", x.rule(1, 0, 0, -1, 0), Code.BAD);
        DUE.is("5: from 4", x.rule(1, 0, 0, 4, 0), Code.BAD);
        DUE.is("5: from 4, kind 1", x.rule(1, 0, 1, 4, 0), Code.BAD);
        DUE.is("5: refused rules are not there", x.stage(), 0);
        DUE.is("5: staged", x.rule(1, 0, 0, 0, 0), Code.NO);
        DUE.is("5: staged and no such field", x.rule(1, 2, 0, 0, 0), Code.BAD);
        DUE.is("5: staged and no such type", x.rule(3, 0, 0, 0, 0), Code.BAD);
        DUE.is("5: staged and no such from", x.rule(1, 0, 0, 4, 0), Code.BAD);
        x.withdraw();
        for (int kind = 0; kind <= 2; kind++) {
            DUE.is("5: kind", x.rule(1, 1, kind, 3, Code.MIN), 0);
        }
        DUE.is("5: the latest rule counts", x.rule(1, 1, 0, 3, 1), 0);
        DUE.is("5: from means nothing to kind 0", x.stage(), 0);
    }

    private static void reset() {
        SwitchedModules x = Code.running(Code.set(1, 5), Code.ret(1));
        x.word(0, 0, 99, 0, 0, 0);
        x.cut(0, 1);
        x.word(3, 0, 0, 0, 0, 0);
        x.fields(1, 3);
        x.fields(2, 0);
        DUE.is("6: reset", x.reset(), true);
        DUE.is("6: the length again", x.cut(0, 3), false);
        DUE.is("6: a new procedure is gone", x.cut(3, 1), false);
        DUE.is("6: the fields again", x.rule(1, 3, 0, 0, 0), 0);
        DUE.is("6: the type again", x.rule(2, 0, 0, 0, 0), 0);
        DUE.is("6: reset twice", x.reset() && x.reset(), true);
        DUE.is("6: stage", x.stage(), 0);
        DUE.is("6: not when staged", x.reset(), false);
        DUE.is("6: nothing changed", x.changed(0), false);
        x.attempt(0);
        x.spawn(0, 0);
        x.step(1, 9);
        DUE.is("6: the words again", x.result(1), 5);
    }

    private static void resetForgetsRulesAndChangedTypes() {
        SwitchedModules x = Code.running(Code.make(0, 0), Code.keep(0, 0), Code.set(1, 6), Code.put(0, 1, 1),
            Code.ret(0));
        x.spawn(0, 0);
        x.step(1, 9);
        x.rule(0, 0, 0, 0, 3);
        x.reset();
        DUE.is("6: stage", x.stage(), 0);
        DUE.is("6: its type is not changed", x.changed(0), false);
        DUE.is("6: no object is made over", x.attempt(0), 1);
        DUE.is("6: the object is as it was", x.field(1, 1), 6);
        x.rule(0, 0, 0, 0, 3);
        x.reset();
        x.rule(0, 1, 1, 1, 0);
        Code.switchOver(x);
        DUE.is("6: no rule for field 0", x.field(1, 0), 0);
        DUE.is("6: the rule for field 1", x.field(1, 1), 6);
    }

    private static void stageScansByProcedures() {
        SwitchedModules x = new SwitchedModules();
        DUE.is("7: nothing there", x.stage(), 0);
        DUE.is("7: staged already", x.stage(), Code.NO);
        x.withdraw();
        Code.write(x, 0, Code.set(0, 1), Code.set(0, 1));
        Code.write(x, 1, Code.set(3, 1), Code.ret(0));
        DUE.is("7: the last of 0 before the first of 1", x.stage(), -101);
        Code.write(x, 0, Code.set(0, 1), Code.ret(3));
        DUE.is("7: a wrong last one", x.stage(), -101);
        Code.write(x, 0, Code.set(0, 1), Code.ret(2));
        DUE.is("7: the first of 1", x.stage(), -112);
        Code.write(x, 1, Code.ret(0), Code.set(3, 1), Code.set(3, 1), Code.set(0, 0));
        DUE.is("7: the first that is wrong", x.stage(), -113);
        x.cut(1, 0);
        for (int i = 0; i < 12; i++) {
            x.word(5, i, 0, 0, 0, 0);
        }
        x.word(5, 11, 12, 0, 0, 0);
        DUE.is("7: the last of all", x.stage(), -171);
        x.word(5, 11, 0, 0, 0, 0);
        DUE.is("7: all right", x.stage(), 0);
        DUE.is("7: staged already", x.stage(), Code.NO);
    }

    private static void right(int[] word, boolean want) {
        SwitchedModules x = new SwitchedModules();
        x.fields(0, 2);
        x.fields(2, 4);
        Code.write(x, 3, Code.ret(0));
        Code.write(x, 4, Code.set(0, 0), word, Code.ret(0));
        String name = "7: " + word[0] + " " + word[1] + " " + word[2] + " " + word[3];
        DUE.is(name, x.stage(), want ? 0 : -149);
    }

    /** Tries an operand at, under and over its bounds, with the others as they are. */
    private static void operand(int[] word, int at, int low, int high) {
        for (int v : new int[] {Code.MIN, low - 1, low, high, high + 1, Code.MAX}) {
            int[] tried = word.clone();
            tried[at] = v;
            right(tried, v >= low && v <= high);
        }
    }

    private static void free(int[] word, int at) {
        for (int v : new int[] {Code.MIN, -1, 3, 4, 12, Code.MAX}) {
            int[] tried = word.clone();
            tried[at] = v;
            right(tried, true);
        }
    }

    private static void stageLooksAtLocals() {
        int[][] words = {Code.ret(0), Code.set(0, 0), Code.add(0, 0, 0), Code.sub(0, 0, 0), Code.jump(0, 0),
            Code.call(0, 3, 0), Code.make(0, 0), Code.get(0, 0, 0), Code.put(0, 0, 0), Code.load(0, 0),
            Code.keep(0, 0), Code.await(0)};
        for (int[] word : words) {
            operand(word, 1, 0, 2);
        }
        for (int[] word : new int[][] {Code.add(0, 0, 0), Code.sub(0, 0, 0), Code.get(0, 0, 0), Code.put(0, 0, 0)}) {
            operand(word, 2, 0, 2);
        }
        for (int[] word : new int[][] {Code.add(0, 0, 0), Code.sub(0, 0, 0), Code.call(0, 3, 0)}) {
            operand(word, 3, 0, 2);
        }
    }

    private static void stageLooksAtTheRest() {
        for (int op : new int[] {Code.MIN, -1, 13, Code.MAX}) {
            right(new int[] {op, 0, 0, 0}, false);
        }
        operand(Code.jump(0, 0), 2, 0, 2);
        operand(Code.call(0, 3, 0), 2, 3, 4);
        operand(Code.load(0, 0), 2, 0, 3);
        operand(Code.keep(0, 0), 2, 0, 3);
        operand(Code.point(0), 1, 0, 3);
        free(Code.ret(0), 2);
        free(Code.ret(0), 3);
        free(Code.set(0, 0), 2);
        free(Code.set(0, 0), 3);
        free(Code.jump(0, 0), 3);
        free(Code.make(0, 0), 3);
        free(Code.load(0, 0), 3);
        free(Code.keep(0, 0), 3);
        free(Code.await(0), 2);
        free(Code.await(0), 3);
        free(Code.point(0), 2);
        free(Code.point(0), 3);
    }

    private static void stageLooksAtTypes() {
        for (int t : new int[] {Code.MIN, -1, 0, 1, 2, 3, Code.MAX}) {
            right(Code.make(0, t), t == 0 || t == 2);
        }
        for (int c : new int[] {Code.MIN, -8, -4, -1, 0, 1, 2, 3, 4, 5, 7, 8, 9, 10, 11, 12, 16, Code.MAX}) {
            boolean want = c == 0 || c == 1 || c >= 8 && c <= 11;
            right(Code.get(0, 0, c), want);
            right(Code.put(0, 0, c), want);
        }
    }

    private static void stageLooksAtRules() {
        SwitchedModules x = Code.running(Code.ret(0));
        x.fields(2, 4);
        x.rule(2, 3, 2, 1, 5);
        DUE.is("7: from is no field before", x.stage(), -211);
        x.rule(2, 1, 1, 1, 5);
        DUE.is("7: the first such rule of the type", x.stage(), -209);
        x.fields(0, 3);
        x.rule(0, 2, 1, 2, 0);
        DUE.is("7: the first such type", x.stage(), -202);
        x.rule(0, 2, 1, 1, 0);
        x.rule(2, 1, 1, 0, 5);
        x.rule(2, 3, 0, 3, 5);
        DUE.is("7: kind 0 has no from", x.stage(), 0);
        x.withdraw();
        x.fields(0, 1);
        x.rule(0, 0, 1, 1, 0);
        DUE.is("7: a field that goes may be from", x.stage(), 0);
        SwitchedModules y = new SwitchedModules();
        y.fields(0, 1);
        y.rule(0, 0, 2, 0, 0);
        DUE.is("7: a type that was not there has no from", y.stage(), -200);
    }

    private static void stageLooksAtWordsBeforeRules() {
        SwitchedModules x = new SwitchedModules();
        x.fields(0, 1);
        x.rule(0, 0, 1, 0, 0);
        Code.write(x, 5, Code.point(4), Code.ret(0));
        DUE.is("7: words first", x.stage(), -160);
        DUE.is("7: it is not staged then", x.withdraw(), false);
        x.word(5, 0, 12, 3, 0, 0);
        DUE.is("7: then rules", x.stage(), -200);
        DUE.is("7: not staged, either", x.withdraw(), false);
    }

    private static void withdraw() {
        SwitchedModules x = new SwitchedModules();
        DUE.is("8: not staged", x.withdraw(), false);
        Code.write(x, 0, Code.set(0, 4), Code.ret(0));
        x.stage();
        DUE.is("8: staged", x.withdraw(), true);
        DUE.is("8: not any more", x.withdraw(), false);
        DUE.is("8: nothing staged", x.attempt(0), 3);
        DUE.is("8: the draft stays", x.cut(0, 3), false);
        DUE.is("8: the draft stays", x.cut(0, 2), true);
        DUE.is("8: staged again", x.stage(), 0);
        DUE.is("8: attempt", x.attempt(0), 1);
        DUE.is("8: nothing staged after a switch", x.withdraw(), false);
    }
}
