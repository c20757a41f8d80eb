/** What 'Terms' says of a staged draft, of what is changed, of what stands in the way, and of objects made over. */
public final class EdgeChangeTest {
    private static final Due DUE = new Due();

    public static void main(String[] args) {
        stagedDraftCannotBeChanged();
        typeIsChangedByFieldsOrRule();
        typeIsChangedWhateverTheySaid();
        typeIsNotChangedByARefusedCall();
        typeIsChangedSinceTheDraftWasThePresentVersion();
        procedureIsChangedInstructionByInstruction();
        procedureIsChangedByItsLength();
        procedureIsChangedByATypeThatItUses();
        procedureIsChangedByWhatItHasInThePresentVersion();
        frameOfAChangedProcedureStandsInTheWay();
        unlessItIsTheTopOne();
        unlessItsNextInstructionIsAPoint();
        unlessTheDraftHasThatPointToo();
        noFrameStandsInTheWay();
        unreachableObjectsGoFirst();
        eachObjectOfAChangedTypeIsMadeOver();
        objectHasAsManyFieldsAsTheDraftSays();
        ruleOfKind0();
        ruleOfKind1();
        ruleOfKind2();
        ruleOfKind2IsAFaultWhenThatIsZero();
        withNoRule();
        rulesSeeTheOldFields();
        eachFieldCostsOneOfTheFuel();
        fuelForAsManyFieldsAsThereCanBe();
        faultLeavesAllObjectsAsTheyWere();
        numberIsOneMoreAndNothingIsStaged();
        framesGoToTheFirstPointOfThatNumber();
        framesOfOtherProceduresStay();
        DUE.end();
    }

    /** "A STAGED draft cannot be changed." */
    private static void stagedDraftCannotBeChanged() {
        Twin.refuses(DUE, "word", Twin::busyAndStaged, Code.NO, x -> x.word(0, 0, 1, 0, 0, 0));
        Twin.refuses(DUE, "word, one longer", Twin::busyAndStaged, Code.NO, x -> x.word(3, 2, 0, 0, 0, 0));
        Twin.refuses(DUE, "word of another", Twin::busyAndStaged, Code.NO, x -> x.word(5, 0, 0, 0, 0, 0));
        Twin.refuses(DUE, "cut", Twin::busyAndStaged, 0, x -> Twin.bit(x.cut(3, 0)));
        Twin.refuses(DUE, "fields", Twin::busyAndStaged, 0, x -> Twin.bit(x.fields(0, 4)));
        Twin.refuses(DUE, "fields of another", Twin::busyAndStaged, 0, x -> Twin.bit(x.fields(2, 1)));
        Twin.refuses(DUE, "rule", Twin::busyAndStaged, Code.NO, x -> x.rule(0, 0, 0, 0, 7));
        Twin.refuses(DUE, "rule of another", Twin::busyAndStaged, Code.NO, x -> x.rule(2, 0, 0, 0, 7));
        Twin.refuses(DUE, "reset", Twin::busyAndStaged, 0, x -> Twin.bit(x.reset()));
    }

    /** Procedures 0 .. 2 make objects of types 0 .. 2, of four fields each. */
    private static SwitchedModules makersOfThreeTypes() {
        SwitchedModules x = new SwitchedModules();
        for (int t = 0; t <= 2; t++) {
            x.fields(t, 4);
            Code.write(x, t, Code.make(1, t), Code.keep(1, t), Code.put(1, 0, 4 * t), Code.ret(0));
        }
        Code.switchOver(x);
        return x;
    }

    private static void changes(String what, SwitchedModules x, int type) {
        DUE.is(what + ", stage", x.stage(), 0);
        for (int p = 0; p <= 5; p++) {
            DUE.is(what + ", changed " + p, x.changed(p), p == type);
        }
    }

    /** "A type is CHANGED by it if fields() or rule() was called for it" */
    private static void typeIsChangedByFieldsOrRule() {
        for (int t = 0; t <= 2; t++) {
            SwitchedModules x = makersOfThreeTypes();
            x.fields(t, 3);
            changes("fields " + t, x, t);
            SwitchedModules y = makersOfThreeTypes();
            y.rule(t, 3, 1, 3, 1);
            changes("rule " + t, y, t);
        }
        changes("neither", makersOfThreeTypes(), -1);
    }

    /** "(whatever they said)" */
    private static void typeIsChangedWhateverTheySaid() {
        for (int t = 0; t <= 2; t++) {
            SwitchedModules x = makersOfThreeTypes();
            x.fields(t, 4);
            changes("as many fields as before", x, t);
            SwitchedModules y = makersOfThreeTypes();
            y.rule(t, 0, 0, 0, 0);
            changes("a rule like none", y, t);
            SwitchedModules z = makersOfThreeTypes();
            z.fields(t, 2);
            z.fields(t, 4);
            changes("back again", z, t);
        }
    }

    /** "A STAGED draft cannot be changed", and what is refused has given the type nothing. */
    private static void typeIsNotChangedByARefusedCall() {
        for (int t = 0; t <= 2; t++) {
            SwitchedModules x = makersOfThreeTypes();
            DUE.is("fields -1", x.fields(t, -1), false);
            DUE.is("fields 5", x.fields(t, 5), false);
            DUE.is("field -1", x.rule(t, -1, 0, 0, 0), Code.BAD);
            DUE.is("field 4", x.rule(t, 4, 0, 0, 0), Code.BAD);
            DUE.is("kind -1", x.rule(t, 0, -1, 0, 0), Code.BAD);
            DUE.is("kind 3", x.rule(t, 0, 3, 0, 0), Code.BAD);
            DUE.is("from -1", x.rule(t, 0, 1, -1, 0), Code.BAD);
            DUE.is("from 4", x.rule(t, 0, 1, 4, 0), Code.BAD);
            changes("not staged", x, -1);
            DUE.is("staged, fields", x.fields(t, 1), false);
            DUE.is("staged, rule", x.rule(t, 0, 0, 0, 0), Code.NO);
            x.withdraw();
            changes("staged", x, -1);
        }
    }

    /** "since the draft was last the present version" */
    private static void typeIsChangedSinceTheDraftWasThePresentVersion() {
        for (int t = 0; t <= 2; t++) {
            SwitchedModules x = makersOfThreeTypes();
            x.fields(t, 3);
            changes("called", x, t);
            x.withdraw();
            changes("withdrawn", x, t);
            DUE.is("attempt", x.attempt(0), 1);
            changes("after a switch", x, -1);
            x.withdraw();
            x.rule(t, 0, 0, 0, 1);
            x.reset();
            changes("after a reset", x, -1);
            x.withdraw();
            x.rule(t, 0, 0, 0, 1);
            changes("called again", x, t);
        }
    }

    /** "a procedure, if it is not the same, instruction by instruction" */
    private static void procedureIsChangedInstructionByInstruction() {
        int[] other = {11, 1, 7, 7};
        for (int p = 0; p <= 5; p++) {
            for (int i : new int[] {0, 6, 11}) {
                for (int part = 0; part < 4; part++) {
                    SwitchedModules x = new SwitchedModules();
                    for (int j = 0; j < 12; j++) {
                        x.word(p, j, 0, 0, 0, 0);
                    }
                    Code.switchOver(x);
                    x.word(p, i, 0, 0, 0, 0);
                    changes("written the same", x, -1);
                    x.withdraw();
                    int[] word = {0, 0, 0, 0};
                    word[part] = i == 11 && part == 0 ? 0 : other[part];
                    x.word(p, i, word[0], word[1], word[2], word[3]);
                    changes("part " + part + " of " + i, x, i == 11 && part == 0 ? -1 : p);
                    x.withdraw();
                    x.word(p, i, 0, 0, 0, 0);
                    changes("written back", x, -1);
                }
            }
        }
    }

    /** The same: one that is longer, shorter, new or gone is not the same. */
    private static void procedureIsChangedByItsLength() {
        for (int p = 0; p <= 5; p++) {
            SwitchedModules x = new SwitchedModules();
            changes("never there", x, -1);
            x.withdraw();
            x.word(p, 0, 0, 0, 0, 0);
            changes("new", x, p);
            x.attempt(0);
            x.word(p, 1, 0, 0, 0, 0);
            changes("one longer", x, p);
            x.attempt(0);
            x.cut(p, 2);
            changes("cut to its length", x, -1);
            x.withdraw();
            x.cut(p, 1);
            changes("one shorter", x, p);
            x.withdraw();
            x.word(p, 1, 0, 0, 0, 0);
            changes("as long again", x, -1);
            x.withdraw();
            x.cut(p, 0);
            changes("gone", x, p);
        }
    }

    /** "or if one of its instructions .. is 6, 7 or 8 with a changed type." */
    private static void procedureIsChangedByATypeThatItUses() {
        for (int c = 0; c < 12; c++) {
            for (int[] word : new int[][] {Code.make(1, c / 4), Code.get(1, 1, c), Code.put(1, 1, c)}) {
                for (int t = 0; t <= 2; t++) {
                    SwitchedModules x = makersOfThreeTypes();
                    for (int p = 0; p <= 2; p++) {
                        x.cut(p, 0);
                    }
                    Code.write(x, 4, Code.set(0, 0), word, Code.ret(0));
                    Code.write(x, 5, Code.set(0, 6), Code.keep(0, c % 3), Code.load(0, c % 3), Code.ret(0));
                    Code.switchOver(x);
                    x.fields(t, 4);
                    changes(word[0] + " " + c + ", type " + t, x, t == c / 4 ? 4 : -1);
                }
            }
        }
    }

    /** "in the present version" */
    private static void procedureIsChangedByWhatItHasInThePresentVersion() {
        SwitchedModules x = new SwitchedModules();
        x.fields(0, 1);
        Code.write(x, 0, Code.make(0, 0), Code.ret(0));
        Code.write(x, 1, Code.ret(0), Code.make(0, 0), Code.ret(0));
        x.cut(1, 1);
        Code.switchOver(x);
        x.fields(0, 1);
        changes("what was cut off does not count", x, 0);
        x.withdraw();
        Code.write(x, 1, Code.make(0, 0), Code.ret(0));
        Code.write(x, 0, Code.ret(0));
        x.stage();
        DUE.is("it has one no more, and is not the same", x.changed(0), true);
        DUE.is("it has one now, and is not the same", x.changed(1), true);
        x.withdraw();
        x.reset();
        x.fields(1, 1);
        changes("a type that nothing uses", x, -1);
    }

    /** "A frame of a changed procedure STANDS IN THE WAY" */
    private static void frameOfAChangedProcedureStandsInTheWay() {
        SwitchedModules x = Code.runningAll(new int[][] {Code.set(1, 1), Code.ret(0)},
            new int[][] {Code.set(1, 1), Code.ret(0)});
        x.spawn(0, 0);
        x.spawn(1, 0);
        x.stage();
        DUE.is("none is changed", x.blocker(1), 0);
        x.withdraw();
        x.word(1, 0, 1, 1, 2, 0);
        x.stage();
        DUE.is("one is changed", x.blocker(1), 2);
        DUE.is("attempt", x.attempt(0), 0);
        x.step(2, 1);
        DUE.is("at its RETURN still", x.blocker(1), 2);
        DUE.is("attempt", x.attempt(0), 0);
        x.step(2, 1);
        DUE.is("when it has ended, no more", x.blocker(1), 0);
        DUE.is("attempt", x.attempt(0), 1);
    }

    /** "unless it is the top one of its task" */
    private static void unlessItIsTheTopOne() {
        for (int depth = 1; depth <= 6; depth++) {
            SwitchedModules x = Code.runningAll(
                new int[][] {Code.point(0), Code.call(1, 1, 0), Code.point(0), Code.ret(0)},
                new int[][] {Code.call(1, 1, 0), Code.ret(0)});
            x.spawn(0, 0);
            x.step(1, depth);
            DUE.is("frames", x.frames(1), depth);
            x.word(0, 3, 0, 1, 0, 0);
            x.stage();
            DUE.is("the lowest of " + depth + " frames, behind its point", x.blocker(1), 1);
            DUE.is("attempt", x.attempt(0), 0);
        }
        SwitchedModules y = Code.runningAll(new int[][] {Code.call(1, 1, 0), Code.point(0), Code.ret(0)},
            new int[][] {Code.point(0), Code.ret(0)});
        y.spawn(0, 0);
        y.step(1, 1);
        y.word(0, 2, 0, 2, 0, 0);
        y.stage();
        DUE.is("the lower one is at a point", y.frame(1, 0, 1), 1);
        DUE.is("but it is not the top one", y.blocker(1), 1);
        y.step(1, 2);
        DUE.is("it is the top one now", y.blocker(1), 0);
        DUE.is("attempt", y.attempt(0), 1);
    }

    /** "its next instruction is a POINT a" */
    private static void unlessItsNextInstructionIsAPoint() {
        int[][] words = {Code.ret(1), Code.set(1, 1), Code.add(1, 1, 1), Code.sub(1, 1, 1), Code.jump(1, 1),
            Code.call(1, 0, 1), Code.make(1, 0), Code.get(1, 1, 0), Code.put(1, 1, 0), Code.load(1, 1), Code.keep(1, 1),
            Code.await(1), Code.point(1)};
        for (int op = 0; op <= 12; op++) {
            SwitchedModules x = Code.running(words[op], Code.point(1), Code.ret(1));
            x.spawn(0, 0);
            Code.write(x, 0, words[op], Code.point(1), Code.point(1), Code.ret(1));
            x.stage();
            DUE.is("before op " + op, x.blocker(1), op == 12 ? 0 : 1);
            DUE.is("attempt", x.attempt(0), op == 12 ? 1 : 0);
        }
        SwitchedModules x = Code.running(Code.set(2, 1), Code.point(2), Code.set(0, 2), Code.point(0), Code.ret(0));
        x.spawn(0, 0);
        x.word(0, 4, 0, 2, 0, 0);
        x.stage();
        int[] want = {1, 0, 1, 0, 1};
        for (int place = 0; place < 5; place++) {
            DUE.is("at place " + place, x.frame(1, 0, 1), place);
            DUE.is("blocker at place " + place, x.blocker(1), want[place]);
            x.step(1, 1);
        }
        DUE.is("ended", x.blocker(1), 0);
    }

    /** "and the draft's procedure has a POINT a, too." */
    private static void unlessTheDraftHasThatPointToo() {
        for (int a = 0; a <= 3; a++) {
            for (int other = 0; other <= 3; other++) {
                SwitchedModules x = Code.runningAll(new int[][] {Code.point(a), Code.ret(0)},
                    new int[][] {Code.point(a), Code.ret(0)});
                x.spawn(0, 0);
                Code.write(x, 0, Code.set(a % 3, a), Code.set(0, a), Code.point(other), Code.ret(0));
                x.stage();
                DUE.is("POINT " + a + ", the draft has " + other, x.blocker(1), a == other ? 0 : 1);
                x.withdraw();
                Code.write(x, 0, Code.set(a % 3, a), Code.ret(0), Code.point(a));
                x.cut(0, 2);
                x.stage();
                DUE.is("the draft has it in what was cut off", x.blocker(1), 1);
                x.withdraw();
                x.cut(0, 0);
                x.stage();
                DUE.is("another procedure of the draft has it", x.blocker(1), 1);
            }
        }
    }

    /** "When no frame stands in the way, the draft can take the place" */
    private static void noFrameStandsInTheWay() {
        for (int last = 1; last <= 6; last++) {
            SwitchedModules x = Code.runningAll(new int[][] {Code.point(0), Code.set(1, 1), Code.ret(0)},
                new int[][] {Code.set(1, 1), Code.ret(0)});
            for (int task = 1; task <= 6; task++) {
                x.spawn(task % 2, 0);
            }
            int mover = last % 2 == 0 ? last : 0;
            x.step(last, 1);
            x.word(0, 2, 0, 1, 0, 0);
            x.stage();
            DUE.is("task " + last + " has gone on", x.blocker(1), mover);
            DUE.is("attempt", x.attempt(0), mover == 0 ? 1 : 0);
        }
    }

    /** Procedure 0 makes an object of type t with these fields, in global t; procedure 3 keeps its argument there. */
    private static SwitchedModules withObject(int t, int... fields) {
        SwitchedModules x = new SwitchedModules();
        x.fields(t, fields.length);
        int[][] words = new int[3 + 2 * fields.length][];
        words[0] = Code.make(1, t);
        words[1] = Code.keep(1, t);
        for (int f = 0; f < fields.length; f++) {
            words[2 + 2 * f] = Code.set(2, fields[f]);
            words[3 + 2 * f] = Code.put(1, 2, 4 * t + f);
        }
        words[words.length - 1] = Code.ret(0);
        Code.write(x, 0, words);
        Code.write(x, 3, Code.keep(0, t), Code.ret(0));
        Code.switchOver(x);
        x.spawn(0, 0);
        x.step(1, 200);
        x.cut(0, 0);
        Code.switchOver(x);
        return x;
    }

    private static void fieldsAre(String what, SwitchedModules x, int object, int... values) {
        for (int f = 0; f <= 3; f++) {
            DUE.is(what + ", field " + f, x.field(object, f), f < values.length ? values[f] : 0);
        }
    }

    /** "first all objects that are not reachable go." */
    private static void unreachableObjectsGoFirst() {
        SwitchedModules x = withObject(0, 0, 5);
        x.spawn(3, 0);
        x.step(2, 2);
        DUE.is("it is there, and not reachable", x.heap(), 1);
        x.rule(0, 0, 2, 0, 1);
        x.stage();
        DUE.is("it is there still", x.heap(), 1);
        DUE.is("neither its 0 nor its cost counts", x.attempt(0), 1);
        DUE.is("it is gone", x.heap(), 0);
        SwitchedModules y = withObject(0, 0, 5);
        y.spawn(3, 0);
        y.step(2, 2);
        y.stage();
        DUE.is("no type is changed", y.attempt(0), 1);
        DUE.is("it is gone all the same", y.heap(), 0);
    }

    /** "Then each object of a changed type is MADE OVER" */
    private static void eachObjectOfAChangedTypeIsMadeOver() {
        for (int t = 0; t <= 2; t++) {
            SwitchedModules x = makersOfThreeTypes();
            for (int p = 0; p <= 2; p++) {
                x.spawn(p, 40 + p);
                x.step(p + 1, 9);
            }
            x.rule(t, 0, 1, 0, 100);
            Code.switchOver(x);
            for (int o = 1; o <= 3; o++) {
                fieldsAre("type " + t + " is changed, object " + o, x, o, 39 + o + (o - 1 == t ? 100 : 0));
                DUE.is("its type", x.typeOf(o), o - 1);
            }
        }
    }

    /** "it has as many fields as the draft says" */
    private static void objectHasAsManyFieldsAsTheDraftSays() {
        for (int before = 1; before <= 4; before++) {
            for (int after = 0; after <= 4; after++) {
                SwitchedModules x = withObject(1, new int[] {5, 6, 7, 8}, before);
                x.fields(1, after);
                for (int f = 0; f < after; f++) {
                    x.rule(1, f, 0, 0, 70 + f);
                }
                Code.switchOver(x);
                for (int f = 0; f <= 4; f++) {
                    DUE.is(before + " fields, then " + after, x.field(1, f), f < after ? 70 + f : 0);
                }
                DUE.is("its type", x.typeOf(1), 1);
                DUE.is("it is there", x.heap(), 1);
            }
        }
    }

    private static SwitchedModules withObject(int t, int[] values, int count) {
        int[] fields = new int[count];
        System.arraycopy(values, 0, fields, 0, count);
        return withObject(t, fields);
    }

    /** Makes an object with these fields over, by one rule for its field 0. */
    private static void makesOver(int want, int kind, int from, int k, int... old) {
        SwitchedModules x = withObject(2, old);
        DUE.is("rule", x.rule(2, 0, kind, from, k), 0);
        DUE.is("stage", x.stage(), 0);
        String what = "kind " + kind + ", from " + from + ", k " + k;
        DUE.is(what, x.attempt(old.length), 1);
        DUE.is(what, x.field(1, 0), want);
    }

    /** "RULES (kind, from, k): 0: the field is k" */
    private static void ruleOfKind0() {
        for (int k : new int[] {Code.MIN, -1, 0, 1, Code.MAX}) {
            makesOver(k, 0, 0, k, 9);
            makesOver(k, 0, 3, k, 0);
        }
    }

    /** "1: the old field from, plus k" (adding wraps) */
    private static void ruleOfKind1() {
        makesOver(5, 1, 0, 0, 5);
        makesOver(Code.MAX, 1, 0, 1, Code.MAX - 1);
        makesOver(Code.MIN, 1, 0, 1, Code.MAX);
        makesOver(Code.MIN, 1, 0, -1, Code.MIN + 1);
        makesOver(Code.MAX, 1, 0, -1, Code.MIN);
        makesOver(0, 1, 0, Code.MIN, Code.MIN);
        for (int from = 0; from <= 3; from++) {
            makesOver(12 + from, 1, from, 2, 10, 11, 12, 13);
        }
    }

    /** "2: k divided by the old field from, rounded towards 0 (wrapping)" */
    private static void ruleOfKind2() {
        makesOver(3, 2, 0, 7, 2);
        makesOver(-3, 2, 0, -7, 2);
        makesOver(-3, 2, 0, 7, -2);
        makesOver(3, 2, 0, -7, -2);
        makesOver(0, 2, 0, 1, 2);
        makesOver(0, 2, 0, -1, 2);
        makesOver(0, 2, 0, 0, 5);
        makesOver(Code.MIN, 2, 0, Code.MIN, 1);
        makesOver(Code.MIN, 2, 0, Code.MIN, -1);
        makesOver(-Code.MAX, 2, 0, Code.MAX, -1);
        makesOver(0, 2, 0, Code.MAX, Code.MIN);
        makesOver(1, 2, 0, Code.MIN, Code.MIN);
        for (int from = 0; from <= 3; from++) {
            makesOver(60 / (from + 1), 2, from, 60, 1, 2, 3, 4);
        }
    }

    /** "a FAULT when that is 0." */
    private static void ruleOfKind2IsAFaultWhenThatIsZero() {
        for (int from = 0; from <= 3; from++) {
            for (int old : new int[] {-1, 0, 1}) {
                int[] fields = {8, 8, 8, 8};
                fields[from] = old;
                SwitchedModules x = withObject(0, fields);
                x.rule(0, 3, 2, from, 6);
                x.stage();
                DUE.is("field " + from + " is " + old, x.attempt(4), old == 0 ? 2 : 1);
                fieldsAre("then", x, 1, old == 0 ? fields : new int[] {0, 0, 0, 6 * old});
            }
        }
        SwitchedModules x = withObject(0, 0);
        x.rule(0, 0, 2, 0, 0);
        x.stage();
        DUE.is("0 divided by 0", x.attempt(9), 2);
    }

    /** "(With no rule: kind 0, k 0.)" */
    private static void withNoRule() {
        SwitchedModules x = withObject(0, 5, 6);
        x.fields(0, 3);
        Code.switchOver(x);
        fieldsAre("none of the three", x, 1);
        SwitchedModules y = withObject(0, 5, 6, 7);
        y.rule(0, 1, 1, 1, 0);
        Code.switchOver(y);
        fieldsAre("but one", y, 1, 0, 6, 0);
    }

    /** "by their rules, field by field": from is an old field also where that one has been made over before. */
    private static void rulesSeeTheOldFields() {
        SwitchedModules x = withObject(2, 1, 2, 3, 4);
        for (int f = 0; f <= 3; f++) {
            x.rule(2, f, 1, 3 - f, 0);
        }
        Code.switchOver(x);
        fieldsAre("turned round", x, 1, 4, 3, 2, 1);
        x.fields(2, 1);
        x.rule(2, 0, 1, 3, 0);
        Code.switchOver(x);
        fieldsAre("from a field that goes", x, 1, 1);
    }

    /** "Each field costs one of the FUEL. When .. the fuel is not enough, all objects are as they were" */
    private static void eachFieldCostsOneOfTheFuel() {
        for (int n = 0; n <= 4; n++) {
            SwitchedModules x = withObject(0, 5, 6);
            x.fields(0, n);
            for (int f = 0; f < n; f++) {
                x.rule(0, f, 0, 0, 9);
            }
            x.stage();
            for (int fuel = 0; fuel < n; fuel++) {
                DUE.is(n + " fields with " + fuel, x.attempt(fuel), 2);
                fieldsAre("not enough", x, 1, 5, 6);
            }
            DUE.is(n + " fields with " + n, x.attempt(n), 1);
            DUE.is("made over", x.field(1, 0), n == 0 ? 0 : 9);
        }
        SwitchedModules y = withObject(0, 5, 6);
        y.fields(1, 4);
        y.stage();
        DUE.is("a type without objects costs nothing", y.attempt(0), 1);
        SwitchedModules z = withObject(0, 5, 6);
        z.rule(0, 0, 0, 0, 1);
        z.stage();
        DUE.is("all the fuel there can be", z.attempt(Code.MAX), 1);
    }

    /** The same, with sixteen objects of four fields: 64. */
    private static void fuelForAsManyFieldsAsThereCanBe() {
        SwitchedModules x = new SwitchedModules();
        x.fields(2, 4);
        Code.write(x, 0, Code.make(1, 2), Code.load(0, 0), Code.put(1, 0, 11), Code.keep(1, 0), Code.point(0),
            Code.jump(2, 0), Code.ret(0));
        Code.switchOver(x);
        x.spawn(0, 0);
        x.step(1, 15 * 6 + 4);
        DUE.is("sixteen", x.heap(), 16);
        x.rule(2, 3, 1, 3, 0);
        x.rule(2, 0, 1, 3, -1);
        DUE.is("stage", x.stage(), 0);
        DUE.is("at a point", x.blocker(1), 0);
        String before = View.of(x);
        DUE.is("63", x.attempt(63), 2);
        DUE.same("as they were", View.of(x), before);
        DUE.is("64", x.attempt(64), 1);
        for (int o = 1; o <= 16; o++) {
            fieldsAre("object " + o, x, o, o - 2, 0, 0, o - 1);
        }
    }

    /** "When there is a fault .. all objects are as they were before they were made over." */
    private static void faultLeavesAllObjectsAsTheyWere() {
        for (int zero = 1; zero <= 3; zero++) {
            SwitchedModules x = Code.runningAll(
                new int[][] {Code.make(1, 2), Code.put(1, 0, 8), Code.keep(1, 0), Code.ret(0)},
                new int[][] {Code.make(1, 2), Code.put(1, 0, 8), Code.keep(1, 1), Code.ret(0)},
                new int[][] {Code.make(1, 2), Code.put(1, 0, 8), Code.keep(1, 2), Code.ret(0)},
                new int[][] {Code.make(1, 2), Code.ret(0)});
            for (int o = 1; o <= 3; o++) {
                x.spawn(o - 1, o == zero ? 0 : o);
                x.step(o, 9);
            }
            x.spawn(3, 0);
            x.step(4, 9);
            DUE.is("four objects", x.heap(), 4);
            x.rule(2, 0, 2, 0, 6);
            x.stage();
            DUE.is("object " + zero + " has a 0", x.attempt(100), 2);
            for (int o = 1; o <= 3; o++) {
                DUE.is("as it was, object " + o, x.field(o, 0), o == zero ? 0 : o);
            }
            DUE.is("what was not reachable has gone", x.heap(), 3);
            DUE.is("the version is as it was", x.version(), 1);
            DUE.is("it stays staged", x.stage(), Code.NO);
        }
    }

    /** "Else the draft is the present version, its number one more; .. nothing is staged." */
    private static void numberIsOneMoreAndNothingIsStaged() {
        SwitchedModules x = new SwitchedModules();
        x.word(0, 0, 1, 0, 6, 0);
        x.word(0, 1, 0, 0, 0, 0);
        x.stage();
        DUE.is("attempt", x.attempt(0), 1);
        DUE.is("one more", x.version(), 1);
        DUE.is("nothing is staged", x.withdraw(), false);
        DUE.is("nothing is staged", x.attempt(0), 3);
        DUE.is("it is the present version", x.spawn(0, 0), 1);
        x.step(1, 2);
        DUE.is("which is run", x.result(1), 6);
        changes("the draft is the same then", x, -1);
        x.attempt(0);
        DUE.is("one more", x.version(), 2);
    }

    /** "frames of changed procedures go to the first POINT of that number there" */
    private static void framesGoToTheFirstPointOfThatNumber() {
        for (int a = 0; a <= 3; a++) {
            for (int first = 0; first <= 10; first++) {
                SwitchedModules x = new SwitchedModules();
                Code.write(x, 5, Code.set(1, 7), Code.point(3 - a), Code.point(a), Code.ret(0));
                Code.switchOver(x);
                x.spawn(5, 8);
                x.step(1, 2);
                for (int i = 0; i < 11; i++) {
                    x.word(5, i, 12, i >= first ? a : (a + 1) % 4, 0, 0);
                }
                x.word(5, 11, 0, 1, 0, 0);
                x.stage();
                DUE.is("attempt", x.attempt(0), 1);
                int[] want = {5, first, 8, 7, 0};
                for (int what = 0; what < 5; what++) {
                    DUE.is("POINT " + a + " first at " + first, x.frame(1, 0, what), want[what]);
                }
                DUE.is("it goes on there", x.step(1, 11 - first), 0);
                DUE.is("to the end", x.step(1, 1), 2);
                DUE.is("of the new one", x.result(1), 7);
            }
        }
    }

    /** The same: a frame of a procedure that is not changed keeps its place, at a point or not. */
    private static void framesOfOtherProceduresStay() {
        for (int steps = 0; steps <= 3; steps++) {
            SwitchedModules x = Code.runningAll(
                new int[][] {Code.point(1), Code.set(1, 4), Code.point(1), Code.set(2, 5), Code.ret(0)},
                new int[][] {Code.ret(0)});
            x.spawn(0, 0);
            x.step(1, steps);
            x.word(1, 0, 0, 1, 0, 0);
            x.fields(0, 1);
            x.stage();
            DUE.is("attempt", x.attempt(0), 1);
            DUE.is("after " + steps + " steps", x.frame(1, 0, 1), steps);
        }
        SwitchedModules y = Code.running(Code.make(1, 0), Code.point(1), Code.point(1), Code.ret(0));
        y.spawn(0, 0);
        y.step(1, 2);
        y.fields(0, 2);
        y.stage();
        DUE.is("attempt", y.attempt(2), 1);
        DUE.is("changed by its type alone, to the first point", y.frame(1, 0, 1), 1);
    }
}
