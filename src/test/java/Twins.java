import java.util.function.Supplier;
import java.util.function.ToIntFunction;

/** Sheds made the same way each time: one is called, and must answer afterwards as another one that was not. */
final class Twins {
    private final Check check;
    private final Supplier<ToolShed> made;
    private final String[] before = new String[Snapshot.PARTS];

    Twins(Check check, Supplier<ToolShed> made) {
        this.check = check;
        this.made = made;
        for (int part = 0; part < Snapshot.PARTS; part++) {
            before[part] = Snapshot.of(made.get(), part);
        }
    }

    /** A refused call, or a question: it answers this and changes nothing, neither the history nor the text. */
    void dueUnchanged(String what, long due, ToIntFunction<ToolShed> call) {
        for (int part = 0; part < Snapshot.PARTS; part++) {
            ToolShed shed = made.get();
            int answer = call.applyAsInt(shed);
            if (part == 0) {
                check.due(what, due, answer);
            }
            dueSame(what + " changes nothing", part, shed);
        }
    }

    void dueInvalid(String what, ToIntFunction<ToolShed> call) {
        dueUnchanged(what, Check.INVALID, call);
    }

    void dueNotPossible(String what, ToIntFunction<ToolShed> call) {
        dueUnchanged(what, Check.NOT_POSSIBLE, call);
    }

    void dueNotFound(String what, ToIntFunction<ToolShed> call) {
        dueUnchanged(what, Check.NOT_FOUND, call);
    }

    /** A change: it answers this, is recorded as one state, and undo() takes back all of it but the state dropped. */
    void dueUndone(String what, long due, ToIntFunction<ToolShed> call) {
        for (int part = 0; part < Snapshot.HISTORY; part++) {
            ToolShed shed = made.get();
            int states = Math.min(4, shed.count(10) + 1);
            int answer = call.applyAsInt(shed);
            if (part == 0) {
                check.due(what, due, answer);
                check.due(what + " is one state", states, shed.count(10));
            }
            check.due(what + " is undone", states - 1, shed.undo());
            dueSame(what + " leaves nothing behind", part, shed);
        }
    }

    private void dueSame(String what, int part, ToolShed shed) {
        check.dueText(what + ", part " + part, before[part], Snapshot.of(shed, part));
    }
}
