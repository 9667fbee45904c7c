import java.util.ArrayList;
import java.util.List;
import java.util.function.Supplier;
import java.util.function.ToIntFunction;

/** A sentence of the document and the answers that are due by it; a wrong one is told with its promise and its words. */
final class Sentence {
    private final int promise;
    private final String words;

    Sentence(int promise, String words) {
        this.promise = promise;
        this.words = words;
    }

    private String told(String what) {
        return "\"" + words + "\": " + what;
    }

    void due(String what, long want, long got) {
        Answers.due(promise, told(what), want, got);
    }

    void due(String what, boolean want, boolean got) {
        Answers.due(promise, told(what), want, got);
    }

    void dueRun(String what, ProcedureDesk desk, int outcome, int result, int steps, int... outs) {
        Answers.dueRun(promise, told(what), desk, outcome, result, steps, outs);
    }

    void dueNoRun(String what, ProcedureDesk desk) {
        dueRun(what, desk, ProcedureDesk.NONE, 0, 0);
        for (int k = 0; k < 16; k++) {
            due(what + ", out(" + k + ")", 0, desk.out(k));
        }
    }

    void dueMatters(String what, ProcedureDesk desk, int p, int parameters, boolean result, int instructions) {
        due(what + ", parametersThatMatter(" + p + ")", parameters, desk.parametersThatMatter(p));
        due(what + ", resultMatters(" + p + ")", result, desk.resultMatters(p));
        due(what + ", instructionsThatMatter(" + p + ")", instructions, desk.instructionsThatMatter(p));
    }

    /**
     * The call is refused with the answer wanted, also a second time, and changes nothing: all that is asked and done
     * afterwards is answered as by an object that never got the call.
     */
    void refused(String what, int want, Supplier<ProcedureDesk> build, ToIntFunction<ProcedureDesk> call) {
        ProcedureDesk refusing = build.get();
        due(what, want, call.applyAsInt(refusing));
        due(what + ", again", want, call.applyAsInt(refusing));
        Later expected = new Later(build.get());
        Later found = new Later(refusing);
        for (int i = 0; i < expected.answers.size(); i++) {
            due(what + ", later " + expected.calls.get(i), expected.answers.get(i), found.answers.get(i));
        }
    }

    /** The answers to some 160 calls, among them ones that show each part of the state. */
    private static final class Later {
        final List<String> calls = new ArrayList<>();
        final List<Integer> answers = new ArrayList<>();
        private final ProcedureDesk desk;

        Later(ProcedureDesk desk) {
            this.desk = desk;
            lastRun();
            program();
            run();
            parameterCounts();
            growth();
            run();
            shrinking();
            run();
            program();
        }

        private void note(String call, int answer) {
            calls.add(call);
            answers.add(answer);
        }

        private void lastRun() {
            note("outcome()", desk.outcome());
            note("result()", desk.result());
            note("steps()", desk.steps());
            note("outs()", desk.outs());
            for (int k = 0; k < 6; k++) {
                note("out(" + k + ")", desk.out(k));
            }
        }

        private void program() {
            for (int p = 0; p < 6; p++) {
                note("length(" + p + ")", desk.length(p));
                note("parametersThatMatter(" + p + ")", desk.parametersThatMatter(p));
                note("resultMatters(" + p + ")", desk.resultMatters(p) ? 1 : 0);
                note("instructionsThatMatter(" + p + ")", desk.instructionsThatMatter(p));
            }
        }

        private void run() {
            note("run(7, -2, 9)", desk.run(7, -2, 9));
            lastRun();
        }

        /** Which CALLs fit tells how many parameters the procedure called has. */
        private void parameterCounts() {
            for (int p = 0; p < 6; p++) {
                for (int b = 3; b < 7; b++) {
                    int position = desk.emit(0, Answers.CALL, Answers.abc(5, b, 0), p);
                    note("emit of a CALL of " + p + " with b " + b, position);
                    if (position >= 0) {
                        note("drop(0)", desk.drop(0));
                    }
                }
            }
        }

        private void growth() {
            for (int p = 0; p < 6; p++) {
                note("emit(" + p + ", OUT)", desk.emit(p, Answers.OUT, 0, 0));
            }
            note("declare(1)", desk.declare(1));
            note("declare(2)", desk.declare(2));
        }

        private void shrinking() {
            for (int p = 0; p < 6; p++) {
                note("drop(" + p + ")", desk.drop(p));
                note("drop(" + p + ")", desk.drop(p));
            }
        }
    }
}
