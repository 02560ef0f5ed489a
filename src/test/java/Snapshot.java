/**
 * What a shed answers, in one line; each part is asked of a shed of its own, since nothing is promised behind the 512th
 * call. Parts 0 to 2 are questions alone, part 3 brings out what is only seen later, part 4 is the history.
 */
final class Snapshot {
    static final int PARTS = 5;
    static final int HISTORY = 4;

    private final StringBuilder all = new StringBuilder();
    private final ToolShed shed;

    private Snapshot(ToolShed shed) {
        this.shed = shed;
    }

    static String of(ToolShed shed, int part) {
        Snapshot snapshot = new Snapshot(shed);
        switch (part) {
            case 0: snapshot.addMembersAndSums(); break;
            case 1: snapshot.addTools(0, 9); break;
            case 2: snapshot.addTools(10, 19); break;
            case 3: snapshot.addWhatComes(); break;
            default: snapshot.addHistory();
        }
        return snapshot.all.toString();
    }

    private void add(long answer) {
        all.append(' ').append(answer);
    }

    private void addMembersAndSums() {
        for (int member = 0; member < 10; member++) {
            all.append(" m").append(Check.numbers(shed, member, 0, 13));
            add(shed.turnAt(member));
            add(shed.debtorAt(member));
        }
        addSums();
        for (int hook = 0; hook < 12; hook++) {
            add(shed.hookAt(hook / 4, hook % 4));
        }
        add(shed.mean(0));
        add(shed.mean(1));
        addText();
    }

    private void addSums() {
        for (int what = 1; what <= 11; what++) {
            add(shed.account(what));
        }
        for (int what = 0; what <= 9; what++) {
            add(shed.count(what));
        }
        for (int what = 20; what <= 26; what++) {
            add(shed.count(what));
        }
    }

    private void addText() {
        add(shed.count(11));
        add(shed.fault(0));
        add(shed.fault(1));
    }

    private void addTools(int first, int last) {
        for (int tool = first; tool <= last; tool++) {
            all.append(" t");
            for (int what = 0; what <= 8; what++) {
                add(shed.toolOf(tool, what));
            }
            for (int what = 0; what <= 4; what++) {
                add(shed.proposalOf(tool, what));
            }
            for (int index = 0; index < 3; index++) {
                add(shed.panelAt(tool, index, 0));
                add(shed.panelAt(tool, index, 1));
            }
            add(shed.bits(tool));
            add(shed.dullBehind(tool, 3));
            add(shed.dullAt(tool));
        }
    }

    /** The text's orders, the fees and days of tools that are away, who has voted, and what panels have said. */
    private void addWhatComes() {
        add(shed.play());
        for (int tool = 0; tool < 20; tool++) {
            add(shed.comeBack(tool));
            add(shed.giveBack(tool));
            for (int member = 0; member < 10 && shed.proposalOf(tool, 0) >= 0; member++) {
                add(shed.vote(tool, member, member % 2));
            }
            for (int index = 0; index < 3 && shed.toolOf(tool, 3) == 2; index++) {
                add(shed.say(tool, shed.panelAt(tool, index, 0), index));
            }
        }
        for (int member = 0; member < 10; member++) {
            all.append(" m").append(Check.numbers(shed, member, 2, 3)).append(' ')
                    .append(Check.numbers(shed, member, 8, 10));
        }
        add(shed.account(11));
    }

    private void addHistory() {
        add(shed.count(10));
        for (int i = 0; i < 5; i++) {
            all.append(" u");
            add(shed.undo());
            addSums();
            for (int member = 0; member < 10; member++) {
                add(shed.memberOf(member, 3));
                add(shed.turnAt(member));
            }
        }
        addText();
    }
}
