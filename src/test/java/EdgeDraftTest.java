/** What promises 1 to 8 say of their edges and of the calls that they refuse: a method a sentence. */
public final class EdgeDraftTest {
    private static final Due DUE = new Due();
    private static final int[] NO_PROCEDURE = {Code.MIN, -6, -1, 6, 7, Code.MAX};
    private static final int[] NO_TYPE = {Code.MIN, -3, -1, 3, 4, Code.MAX};

    public static void main(String[] args) {
        nothingThere();
        wordAtItsLengthMakesItOneLonger();
        wordIsBadForNoSuchProcedure();
        wordIsBadBeyondItsLength();
        wordIsBadAt12();
        wordIsNoWhenStaged();
        cutKeepsTheFirst();
        cutIsFalseForNoSuchProcedure();
        cutIsFalseBeyondItsLength();
        cutIsFalseWhenStaged();
        fieldsOf0To4();
        fieldsLeaveNoRules();
        fieldsAreFalseForNoSuchType();
        fieldsAreFalseBeside0To4();
        fieldsAreFalseWhenStaged();
        ruleOfEachField();
        ruleIsBadForNoSuchType();
        ruleIsBadForNoSuchField();
        ruleIsBadForNoSuchKind();
        ruleIsBadForFromBeside0To3();
        ruleIsNoWhenStaged();
        resetIsThePresentVersionAgain();
        resetLeavesNoRulesAndNoTypeChanged();
        resetIsFalseWhenStaged();
        stageIsNoWhenItIsAlready();
        stageTellsTheFirstInstructionThatIsNotRight();
        stageTellsTheLastOneWhenItIsNotReturn();
        stageTellsTheFirstRuleWithoutFrom();
        stageLooksAtRulesOfKind1And2Alone();
        stageLooksAtFieldsOfThePresentVersion();
        stageThatIsRefusedLeavesItNotStaged();
        withdrawLeavesTheDraft();
        withdrawIsFalseWhenItWasNot();
        DUE.end();
    }

    private static void refuses(String what, int answer, Twin.Call call) {
        Twin.refuses(DUE, what, Twin::busy, answer, call);
    }

    /** Promise 1: "Nothing there." */
    private static void nothingThere() {
        SwitchedModules x = new SwitchedModules();
        DUE.same("1: at first", View.of(x), "version 0, globals 0 0 0 0, changed no no no no no no, blocker 0; heap 0");
        DUE.is("1: no task", x.state(1), Code.BAD);
        DUE.is("1: none to collect", x.collect(), 0);
        DUE.is("1: nothing staged", x.withdraw(), false);
        DUE.is("1: nothing staged", x.attempt(0), 3);
        for (int p = 0; p <= 5; p++) {
            DUE.is("1: nothing to run", x.spawn(p, 0), Code.BAD);
            DUE.is("1: length 0", x.word(p, 1, 0, 0, 0, 0), Code.BAD);
        }
    }

    /** Promise 2: "(i may be its length: then it is one longer): its length." */
    private static void wordAtItsLengthMakesItOneLonger() {
        for (int p = 0; p <= 5; p++) {
            SwitchedModules x = new SwitchedModules();
            for (int length = 0; length < 12; length++) {
                DUE.is("2: at " + length, x.word(p, length, 1, 0, length, 0), length + 1);
                DUE.is("2: at the last one", x.word(p, length, 1, 0, length, 0), length + 1);
                DUE.is("2: at the first one", x.word(p, 0, 1, 0, length, 0), length + 1);
            }
        }
    }

    /** "BAD when there is no such procedure" */
    private static void wordIsBadForNoSuchProcedure() {
        for (int p : NO_PROCEDURE) {
            refuses("2: procedure " + p, Code.BAD, x -> x.word(p, 0, 0, 0, 0, 0));
        }
    }

    /** "or i is not 0 .. its length" */
    private static void wordIsBadBeyondItsLength() {
        for (int i : new int[] {Code.MIN, -12, -1, 3, 4, 11, 12, 13, Code.MAX}) {
            refuses("2: at " + i + " of 2", Code.BAD, x -> x.word(3, i, 0, 0, 0, 0));
        }
        for (int i : new int[] {-1, 1}) {
            refuses("2: at " + i + " of 0", Code.BAD, x -> x.word(4, i, 0, 0, 0, 0));
        }
        for (int length = 0; length < 12; length++) {
            SwitchedModules x = new SwitchedModules();
            for (int i = 0; i < length; i++) {
                x.word(2, i, 0, 0, 0, 0);
            }
            DUE.is("2: one beyond " + length, x.word(2, length + 1, 0, 0, 0, 0), Code.BAD);
            DUE.is("2: -1 of " + length, x.word(2, -1, 0, 0, 0, 0), Code.BAD);
            DUE.is("2: at " + length, x.word(2, length, 0, 0, 0, 0), length + 1);
        }
    }

    /** "or is 12" */
    private static void wordIsBadAt12() {
        Twin.Maker twelve = () -> {
            SwitchedModules x = Twin.busy();
            for (int i = 0; i < 12; i++) {
                x.word(4, i, 0, 0, 0, 0);
            }
            return x;
        };
        Twin.refuses(DUE, "2: at 12 of 12", twelve, Code.BAD, x -> x.word(4, 12, 1, 1, 1, 0));
        DUE.is("2: at 11 of 12", twelve.make().word(4, 11, 0, 1, 0, 0), 12);
    }

    /** "NO when it is staged." */
    private static void wordIsNoWhenStaged() {
        for (int i = 0; i <= 2; i++) {
            int at = i;
            Twin.refuses(DUE, "2: staged, at " + i, Twin::busyAndStaged, Code.NO, x -> x.word(3, at, 0, 1, 0, 0));
        }
        SwitchedModules x = Twin.busyAndStaged();
        DUE.is("2: staged, but no such place", x.word(3, 3, 0, 1, 0, 0), Code.BAD);
        DUE.is("2: staged, but no such procedure", x.word(6, 0, 0, 1, 0, 0), Code.BAD);
        x.withdraw();
        DUE.is("2: not staged any more", x.word(3, 2, 0, 1, 0, 0), 3);
    }

    /** Promise 3: "A procedure of the draft keeps its first n instructions: true." */
    private static void cutKeepsTheFirst() {
        for (int n = 0; n <= 12; n++) {
            SwitchedModules x = new SwitchedModules();
            for (int i = 0; i < 12; i++) {
                x.word(5, i, 2, 0, 0, 1);
                x.word(4, i, 0, 0, 0, 0);
            }
            x.word(5, 0, 1, 1, 1, 0);
            DUE.is("3: to " + n, x.cut(5, n), true);
            DUE.is("3: one more than " + n, x.cut(5, n + 1), false);
            DUE.is("3: the other has its own", x.cut(4, 12), true);
            if (n < 12) {
                DUE.is("3: a RETURN after them", x.word(5, n, 0, 0, 0, 0), n + 1);
                Code.switchOver(x);
                x.spawn(5, 0);
                DUE.is("3: not before " + n, x.step(1, n + 1), 2);
                DUE.is("3: what is left is the first ones", x.result(1), Math.max(0, n - 1));
            }
        }
    }

    /** "False when there is no such procedure" */
    private static void cutIsFalseForNoSuchProcedure() {
        for (int p : NO_PROCEDURE) {
            refuses("3: procedure " + p, 0, x -> Twin.bit(x.cut(p, 0)));
        }
        DUE.is("3: procedure 0", Twin.busy().cut(0, 0), true);
        DUE.is("3: procedure 5, of no instructions", Twin.busy().cut(5, 0), true);
    }

    /** "n is not 0 .. its length" */
    private static void cutIsFalseBeyondItsLength() {
        for (int n : new int[] {Code.MIN, -1, 3, 12, 13, Code.MAX}) {
            refuses("3: to " + n + " of 2", 0, x -> Twin.bit(x.cut(3, n)));
        }
        refuses("3: to 1 of 0", 0, x -> Twin.bit(x.cut(5, 1)));
        refuses("3: to -1 of 0", 0, x -> Twin.bit(x.cut(5, -1)));
        SwitchedModules x = Twin.busy();
        DUE.is("3: to 2 of 2", x.cut(3, 2), true);
        DUE.is("3: to 0 of 2", x.cut(3, 0), true);
        DUE.is("3: to 0 of 0", x.cut(3, 0), true);
    }

    /** "or it is staged." */
    private static void cutIsFalseWhenStaged() {
        for (int n : new int[] {0, 1, 2}) {
            Twin.refuses(DUE, "3: staged, to " + n, Twin::busyAndStaged, 0, x -> Twin.bit(x.cut(3, n)));
        }
    }

    /** Promise 4: "A type has n fields in the draft .. : true." */
    private static void fieldsOf0To4() {
        for (int t = 0; t <= 2; t++) {
            for (int n = 0; n <= 4; n++) {
                SwitchedModules x = new SwitchedModules();
                DUE.is("4: " + n, x.fields(t, n), true);
                for (int f = 0; f <= 4; f++) {
                    DUE.is("4: field " + f + " of " + n, x.rule(t, f, 0, 0, 0), f < n ? 0 : Code.BAD);
                }
                DUE.is("4: the type before is as it was", x.rule(t - 1, 0, 0, 0, 0), Code.BAD);
                DUE.is("4: the type after is as it was", x.rule(t + 1, 0, 0, 0, 0), Code.BAD);
            }
        }
    }

    /** "and no rules" */
    private static void fieldsLeaveNoRules() {
        for (int t = 0; t <= 2; t++) {
            SwitchedModules x = new SwitchedModules();
            for (int u = 0; u <= 2; u++) {
                x.fields(u, 4);
                for (int f = 0; f <= 3; f++) {
                    x.rule(u, f, 1, f, 0);
                }
            }
            DUE.is("4: rules without a from", x.stage(), -200);
            x.fields(t, 4);
            DUE.is("4: the rules of the others are left", x.stage(), t == 0 ? -204 : -200);
            for (int u = 0; u <= 2; u++) {
                x.fields(u, 4);
            }
            DUE.is("4: no rules are left", x.stage(), 0);
        }
        SwitchedModules x = Twin.busy();
        x.fields(0, 3);
        Code.switchOver(x);
        DUE.is("4: field 0 had a rule", x.field(1, 0), 0);
        DUE.is("4: field 2 had a rule", x.field(1, 2), 0);
        DUE.is("4: the other type has its rule", x.field(2, 3), 26);
    }

    /** "False when there is no such type" */
    private static void fieldsAreFalseForNoSuchType() {
        for (int t : NO_TYPE) {
            refuses("4: type " + t, 0, x -> Twin.bit(x.fields(t, 1)));
        }
    }

    /** "n is not 0 .. 4" */
    private static void fieldsAreFalseBeside0To4() {
        for (int n : new int[] {Code.MIN, -1, 5, Code.MAX}) {
            for (int t = 0; t <= 2; t++) {
                int type = t;
                refuses("4: " + n + " fields of type " + t, 0, x -> Twin.bit(x.fields(type, n)));
            }
        }
    }

    /** "or it is staged." */
    private static void fieldsAreFalseWhenStaged() {
        for (int n = 0; n <= 4; n++) {
            int count = n;
            Twin.refuses(DUE, "4: staged, " + n, Twin::busyAndStaged, 0, x -> Twin.bit(x.fields(0, count)));
            Twin.refuses(DUE, "4: staged, " + n, Twin::busyAndStaged, 0, x -> Twin.bit(x.fields(2, count)));
        }
    }

    /** Promise 5: "The rule of a field of the draft: 0." */
    private static void ruleOfEachField() {
        for (int t = 0; t <= 2; t++) {
            for (int n = 1; n <= 4; n++) {
                SwitchedModules x = new SwitchedModules();
                x.fields(t, n);
                for (int kind = 0; kind <= 2; kind++) {
                    DUE.is("5: the first field", x.rule(t, 0, kind, 0, Code.MIN), 0);
                    DUE.is("5: the last field", x.rule(t, n - 1, kind, 3, Code.MAX), 0);
                }
                DUE.is("5: of kind 2, without a from", x.stage(), -200 - 4 * t);
            }
        }
        SwitchedModules x = Twin.busy();
        x.rule(0, 0, 0, 0, 1);
        x.rule(0, 0, 1, 0, 2);
        Code.switchOver(x);
        DUE.is("5: the latest one counts", x.field(1, 0), 23);
        DUE.is("5: another field's is as it was", x.field(1, 2), 4);
    }

    /** "BAD when there is no such type" */
    private static void ruleIsBadForNoSuchType() {
        for (int t : NO_TYPE) {
            refuses("5: type " + t, Code.BAD, x -> x.rule(t, 0, 0, 0, 1));
        }
    }

    /** "field (of the draft)" */
    private static void ruleIsBadForNoSuchField() {
        for (int f : new int[] {Code.MIN, -1, 3, 4, Code.MAX}) {
            refuses("5: field " + f + " of 3", Code.BAD, x -> x.rule(0, f, 0, 0, 1));
        }
        DUE.is("5: field 2, which the present version has not", Twin.busy().rule(0, 2, 0, 0, 1), 0);
        for (int f : new int[] {-1, 4, 5, 8}) {
            refuses("5: field " + f + " of 4", Code.BAD, x -> x.rule(1, f, 0, 0, 1));
        }
        for (int f : new int[] {-1, 1}) {
            refuses("5: field " + f + " of 1", Code.BAD, x -> x.rule(2, f, 0, 0, 1));
        }
        SwitchedModules x = Twin.busy();
        x.fields(1, 1);
        DUE.is("5: field 1, which the draft has no more", x.rule(1, 1, 0, 0, 1), Code.BAD);
        x.fields(1, 0);
        DUE.is("5: field 0 of none", x.rule(1, 0, 0, 0, 1), Code.BAD);
    }

    /** "or kind" */
    private static void ruleIsBadForNoSuchKind() {
        for (int kind : new int[] {Code.MIN, -1, 3, Code.MAX}) {
            refuses("5: kind " + kind, Code.BAD, x -> x.rule(0, 0, kind, 0, 1));
            refuses("5: kind " + kind, Code.BAD, x -> x.rule(2, 0, kind, 0, 1));
        }
    }

    /** "or from is not 0 .. 3" */
    private static void ruleIsBadForFromBeside0To3() {
        for (int from : new int[] {Code.MIN, -1, 4, Code.MAX}) {
            for (int k = 0; k <= 2; k++) {
                int kind = k;
                refuses("5: kind " + k + ", from " + from, Code.BAD, x -> x.rule(0, 0, kind, from, 1));
            }
        }
        for (int from = 0; from <= 3; from++) {
            DUE.is("5: from " + from, Twin.busy().rule(0, 0, 1, from, 1), 0);
        }
    }

    /** "NO when it is staged." */
    private static void ruleIsNoWhenStaged() {
        for (int k = 0; k <= 2; k++) {
            int kind = k;
            Twin.refuses(DUE, "5: staged", Twin::busyAndStaged, Code.NO, x -> x.rule(0, 2, kind, 3, 1));
            Twin.refuses(DUE, "5: staged", Twin::busyAndStaged, Code.NO, x -> x.rule(2, 0, kind, 0, 1));
        }
        SwitchedModules x = Twin.busyAndStaged();
        DUE.is("5: staged, but no such type", x.rule(3, 0, 0, 0, 1), Code.BAD);
        DUE.is("5: staged, but no such field", x.rule(0, 3, 0, 0, 1), Code.BAD);
        DUE.is("5: staged, but no such kind", x.rule(0, 0, 3, 0, 1), Code.BAD);
        DUE.is("5: staged, but no such from", x.rule(0, 0, 0, 4, 1), Code.BAD);
    }

    /** Promise 6: "The draft is the present version again" */
    private static void resetIsThePresentVersionAgain() {
        SwitchedModules x = Twin.busy();
        x.word(1, 0, 0, 1, 0, 0);
        x.cut(2, 0);
        x.fields(2, 0);
        DUE.is("6: reset", x.reset(), true);
        int[] lengths = {10, 1, 2, 0, 0, 0};
        int[] fields = {2, 4, 1};
        for (int p = 0; p <= 5; p++) {
            DUE.is("6: length of " + p, x.cut(p, lengths[p]), true);
            DUE.is("6: no more of " + p, x.cut(p, lengths[p] + 1), false);
        }
        DUE.is("6: stage", x.stage(), 0);
        for (int p = 0; p <= 5; p++) {
            DUE.is("6: the same", x.changed(p), false);
        }
        x.withdraw();
        for (int t = 0; t <= 2; t++) {
            DUE.is("6: the last field", x.rule(t, fields[t] - 1, 0, 0, 0), 0);
            DUE.is("6: none beyond", x.rule(t, fields[t], 0, 0, 0), Code.BAD);
        }
        DUE.is("6: where nothing was changed", new SwitchedModules().reset(), true);
    }

    /** "(with no rules, no type changed)" */
    private static void resetLeavesNoRulesAndNoTypeChanged() {
        SwitchedModules x = Twin.busy();
        x.reset();
        x.stage();
        DUE.is("6: no type is changed", x.changed(0), false);
        DUE.is("6: no object is made over", x.attempt(0), 1);
        DUE.is("6: as it was", x.field(1, 0), 21);
        DUE.is("6: as it was", x.field(2, 3), 21);
        SwitchedModules y = Twin.busy();
        y.reset();
        y.rule(0, 1, 0, 0, 6);
        y.rule(1, 0, 0, 0, 6);
        Code.switchOver(y);
        DUE.is("6: field 0 has no rule any more", y.field(1, 0), 0);
        DUE.is("6: the other type's field 3 has none", y.field(2, 3), 0);
        DUE.is("6: the new rule", y.field(1, 1), 6);
    }

    /** "False when it is staged." */
    private static void resetIsFalseWhenStaged() {
        Twin.refuses(DUE, "6: staged", Twin::busyAndStaged, 0, x -> Twin.bit(x.reset()));
        SwitchedModules x = Twin.busyAndStaged();
        x.withdraw();
        DUE.is("6: not staged any more", x.reset(), true);
    }

    /** Promise 7: "The draft is staged: 0. NO when it is already" */
    private static void stageIsNoWhenItIsAlready() {
        Twin.refuses(DUE, "7: staged already", Twin::busyAndStaged, Code.NO, x -> x.stage());
        SwitchedModules x = new SwitchedModules();
        DUE.is("7: nothing there", x.stage(), 0);
        DUE.is("7: staged already", x.stage(), Code.NO);
        x.attempt(0);
        DUE.is("7: after it has taken the place", x.stage(), 0);
        x.withdraw();
        DUE.is("7: after it was withdrawn", x.stage(), 0);
    }

    /** All six procedures, with twelve instructions each. */
    private static SwitchedModules wholeDraft() {
        SwitchedModules x = new SwitchedModules();
        for (int w = 0; w < 72; w++) {
            x.word(w / 12, w % 12, 0, 0, 0, 0);
        }
        return x;
    }

    /** "-100 - (12 p + i) for the first instruction that is not right .. by procedures" */
    private static void stageTellsTheFirstInstructionThatIsNotRight() {
        SwitchedModules x = wholeDraft();
        for (int w = 71; w >= 0; w--) {
            x.word(w / 12, w % 12, 1, 3, 0, 0);
            DUE.is("7: wrong from " + w + " on", x.stage(), -100 - w);
        }
        for (int w = 0; w < 71; w++) {
            x.word(w / 12, w % 12, 0, 0, 0, 0);
            DUE.is("7: right up to " + w, x.stage(), -101 - w);
        }
        x.word(5, 11, 0, 0, 0, 0);
        DUE.is("7: all are right", x.stage(), 0);
    }

    /** "(of the last one, when it is not 0 RETURN: likewise)" */
    private static void stageTellsTheLastOneWhenItIsNotReturn() {
        SwitchedModules x = wholeDraft();
        for (int p = 5; p >= 0; p--) {
            x.word(p, 11, 1, 0, 0, 0);
            DUE.is("7: the last of " + p, x.stage(), -100 - (12 * p + 11));
        }
        x.word(0, 3, 13, 0, 0, 0);
        DUE.is("7: one before it is not right", x.stage(), -103);
        x.cut(0, 4);
        DUE.is("7: the last one, not right and no RETURN", x.stage(), -103);
        x.word(0, 3, 12, 0, 0, 0);
        DUE.is("7: the last one, of four", x.stage(), -103);
        x.cut(0, 1);
        DUE.is("7: one RETURN is enough", x.stage(), -123);
        x.word(0, 0, 12, 0, 0, 0);
        DUE.is("7: the only one", x.stage(), -100);
    }

    /** "-200 - (4 t + f) for the first rule .. of a changed type whose from is no field of the type" */
    private static void stageTellsTheFirstRuleWithoutFrom() {
        SwitchedModules x = new SwitchedModules();
        for (int t = 0; t <= 2; t++) {
            x.fields(t, 4);
        }
        for (int r = 11; r >= 0; r--) {
            x.rule(r / 4, r % 4, 1 + r % 2, 0, 1);
            DUE.is("7: wrong from " + r + " on", x.stage(), -200 - r);
        }
        for (int r = 0; r < 11; r++) {
            x.rule(r / 4, r % 4, 0, 0, 1);
            DUE.is("7: right up to " + r, x.stage(), -201 - r);
        }
        x.word(5, 0, 1, 0, 0, 0);
        DUE.is("7: an instruction comes before a rule", x.stage(), -160);
        x.cut(5, 0);
        x.rule(2, 3, 0, 0, 1);
        DUE.is("7: all are right", x.stage(), 0);
    }

    /** "(kind 1 or 2)" */
    private static void stageLooksAtRulesOfKind1And2Alone() {
        for (int kind = 0; kind <= 2; kind++) {
            for (int from = 0; from <= 3; from++) {
                SwitchedModules x = Code.running(Code.ret(0));
                x.rule(0, 1, kind, from, 0);
                DUE.is("7: kind " + kind + ", from " + from + " of 2", x.stage(), kind == 0 || from < 2 ? 0 : -201);
            }
        }
    }

    /** "in the present version" */
    private static void stageLooksAtFieldsOfThePresentVersion() {
        for (int before = 0; before <= 4; before++) {
            for (int after = 1; after <= 4; after++) {
                for (int from = 0; from <= 3; from++) {
                    SwitchedModules x = new SwitchedModules();
                    x.fields(1, before);
                    Code.switchOver(x);
                    x.fields(1, after);
                    x.rule(1, after - 1, 1, from, 0);
                    int want = from < before ? 0 : -200 - (4 + after - 1);
                    DUE.is("7: from " + from + " of " + before + ", then " + after, x.stage(), want);
                }
            }
        }
    }

    /** What stage() refuses is not staged, and can be changed. */
    private static void stageThatIsRefusedLeavesItNotStaged() {
        SwitchedModules x = new SwitchedModules();
        x.word(0, 0, 13, 0, 0, 0);
        DUE.is("7: an instruction", x.stage(), -100);
        DUE.is("7: not staged", x.withdraw(), false);
        DUE.is("7: not staged", x.attempt(0), 3);
        DUE.is("7: not changed, as none is staged", x.changed(0), false);
        DUE.is("7: it can be changed", x.word(0, 0, 0, 0, 0, 0), 1);
        x.fields(0, 1);
        x.rule(0, 0, 1, 0, 0);
        DUE.is("7: a rule", x.stage(), -200);
        DUE.is("7: not staged", x.withdraw(), false);
        DUE.is("7: not staged", x.attempt(0), 3);
        DUE.is("7: it can be changed", x.rule(0, 0, 0, 0, 0), 0);
        DUE.is("7: and staged", x.stage(), 0);
    }

    /** Promise 8: "It is not staged any more (the draft stays): true" */
    private static void withdrawLeavesTheDraft() {
        SwitchedModules x = Twin.busyAndStaged();
        DUE.is("8: staged", x.withdraw(), true);
        DUE.is("8: nothing staged", x.attempt(0), 3);
        DUE.is("8: nothing staged", x.changed(3), false);
        DUE.is("8: it can be changed", x.word(4, 0, 0, 0, 0, 0), 1);
        DUE.is("8: its words stay", x.cut(3, 2), true);
        DUE.is("8: staged again", x.stage(), 0);
        DUE.is("8: what was changed is", x.changed(3), true);
        DUE.is("8: changed types stay", x.changed(0), true);
        DUE.is("8: attempt", x.attempt(7), 1);
        DUE.is("8: its rules stay", x.field(1, 0), 22);
        DUE.is("8: its rules stay", x.field(2, 3), 26);
    }

    /** "false when it was not." */
    private static void withdrawIsFalseWhenItWasNot() {
        refuses("8: not staged", 0, x -> Twin.bit(x.withdraw()));
        SwitchedModules x = Twin.busyAndStaged();
        x.withdraw();
        DUE.is("8: withdrawn already", x.withdraw(), false);
        x.stage();
        x.attempt(7);
        DUE.is("8: it has taken the place", x.withdraw(), false);
        SwitchedModules y = Twin.busyAndStaged();
        y.attempt(0);
        DUE.is("8: too little fuel, it is staged still", y.withdraw(), true);
    }
}
