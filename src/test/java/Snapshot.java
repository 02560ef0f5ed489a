/** All answers that a shed gives to questions, but those about the history and the text, in one line. */
final class Snapshot {
    private Snapshot() {
    }

    static String of(ToolShed shed) {
        StringBuilder all = new StringBuilder();
        for (int member = 0; member < 10; member++) {
            all.append(" m").append(Check.numbers(shed, member, 0, 13));
            all.append(' ').append(shed.turnAt(member)).append(' ').append(shed.debtorAt(member));
        }
        for (int what = 1; what <= 11; what++) {
            all.append(' ').append(shed.account(what));
        }
        for (int tool = 0; tool < 20; tool++) {
            addTool(all.append(" t"), shed, tool);
        }
        for (int what = 0; what <= 9; what++) {
            all.append(' ').append(shed.count(what)).append(' ').append(shed.count(what + 20));
        }
        for (int hook = 0; hook < 12; hook++) {
            all.append(' ').append(shed.hookAt(hook / 4, hook % 4));
        }
        return all.append(' ').append(shed.mean(0)).append(' ').append(shed.mean(1)).toString();
    }

    private static void addTool(StringBuilder all, ToolShed shed, int tool) {
        for (int what = 0; what <= 8; what++) {
            all.append(' ').append(shed.toolOf(tool, what));
        }
        for (int what = 0; what <= 4; what++) {
            all.append(' ').append(shed.proposalOf(tool, what));
        }
        for (int index = 0; index < 3; index++) {
            all.append(' ').append(shed.panelAt(tool, index, 0)).append(' ').append(shed.panelAt(tool, index, 1));
        }
        all.append(' ').append(shed.bits(tool)).append(' ').append(shed.dullBehind(tool, 3));
        all.append(' ').append(shed.dullAt(tool));
    }
}
