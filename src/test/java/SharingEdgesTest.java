/**
 * What is shared, at its edges, by each promise that shares: credits (5), losses of all and of the others (24), costs
 * of upgrades (28) and fees (31), with the pointer (8) at its first and last place, and remainders from 0 to the most.
 */
public final class SharingEdgesTest {
    private static final Check CHECK = new Check();
    private static final int PLAIN = 1;

    public static void main(String[] args) {
        promise31EachRemainderFromEachPointer();
        promise31FewerQuartersThanMembers();
        promise31GoneOnesArePassed();
        promise31OneMember();
        promise5PointerAtTheLeaver();
        promise5BehindNumber9ThoseFrom0On();
        promise5NoRemainderLeavesThePointer();
        promise24AllPayBehindNumber9();
        promise24OthersPayBehindNumber9();
        promise24NothingToShareLeavesThePointer();
        promise28CostBehindNumber9();
        promise28NoRemainderLeavesThePointer();
        promise8PointerComesBackByUndo();
        CHECK.close("SharingEdgesTest");
    }

    /** So many members, a tool with wear 1, and the pointer at a member ahead of the last one. */
    private static ToolShed shedWithPointer(int members, int pointer) {
        ToolShed shed = Check.shedOf(members);
        shed.tool(PLAIN, 1, 1);
        if (pointer > 0) {
            Check.shareFee(shed, 0, pointer);
        }
        return shed;
    }

    /** What each member had of something, as memberOf() numbers it. */
    private static String ofEach(ToolShed shed, int members, int... whats) {
        StringBuilder line = new StringBuilder();
        for (int member = 0; member < members; member++) {
            int sum = 0;
            for (int what : whats) {
                sum += shed.memberOf(member, what);
            }
            line.append(member == 0 ? "" : " ").append(sum);
        }
        return line.toString();
    }

    private static void promise31EachRemainderFromEachPointer() {
        for (int pointer = 0; pointer <= 9; pointer++) {
            for (int rest = 0; rest <= 9; rest++) {
                ToolShed shed = shedWithPointer(10, pointer);
                CHECK.due("8: pointer", pointer, shed.account(11));
                Check.shareFee(shed, 0, 10 + rest);
                StringBuilder due = new StringBuilder();
                for (int member = 0; member < 10; member++) {
                    boolean oneMore = (member - pointer + 10) % 10 < rest;
                    int before = member < pointer ? 1 : 0;
                    due.append(member == 0 ? "" : " ").append(before + (oneMore ? 2 : 1));
                }
                String what = "31: 10 and " + rest + " shared from " + pointer + " on";
                CHECK.dueText(what, due.toString(), ofEach(shed, 10, 2));
                CHECK.due("8: pointer behind " + what, (pointer + rest) % 10, shed.account(11));
            }
        }
    }

    private static void promise31FewerQuartersThanMembers() {
        ToolShed shed = shedWithPointer(10, 9);
        Check.shareFee(shed, 0, 1);
        CHECK.dueText("31: one quarter, to number 9", "1 1 1 1 1 1 1 1 1 1", ofEach(shed, 10, 2));
        CHECK.due("8: 0 behind 9", 0, shed.account(11));
        Check.shareFee(shed, 0, 0);
        CHECK.dueText("31: no quarter", "1 1 1 1 1 1 1 1 1 1", ofEach(shed, 10, 2));
        CHECK.due("8: pointer behind nothing", 0, shed.account(11));
        Check.shareFee(shed, 0, 9);
        CHECK.dueText("31: nine quarters, none to number 9", "2 2 2 2 2 2 2 2 2 1", ofEach(shed, 10, 2));
        CHECK.due("8: pointer at the last one", 9, shed.account(11));
    }

    private static void promise31GoneOnesArePassed() {
        ToolShed two = shedWithPointer(10, 8);
        two.leave(8);
        two.leave(9);
        CHECK.due("8: no credit leaves the pointer", 8, two.account(11));
        Check.shareFee(two, 0, 11);
        CHECK.dueText("31: 8 and 9 are gone, so 0 is next", "3 3 3 2 2 2 2 2 0 0", ofEach(two, 10, 2));
        CHECK.due("8: pointer", 3, two.account(11));
        ToolShed one = shedWithPointer(10, 8);
        one.leave(8);
        Check.shareFee(one, 0, 11);
        CHECK.dueText("31: 8 is gone, so 9 and 0 are next", "3 2 2 2 2 2 2 2 0 2", ofEach(one, 10, 2));
        CHECK.due("8: pointer", 1, one.account(11));
    }

    private static void promise31OneMember() {
        ToolShed shed = shedWithPointer(1, 0);
        Check.shareFee(shed, 0, 1);
        Check.shareFee(shed, 0, 40);
        CHECK.dueText("31: one member gets all", "41", ofEach(shed, 1, 2));
        CHECK.due("8: pointer without a remainder", 0, shed.account(11));
    }

    private static void promise5PointerAtTheLeaver() {
        ToolShed shed = shedWithPointer(10, 8);
        shed.give(8, 12);
        CHECK.due("5: leaves with 12", 12, shed.leave(8));
        CHECK.dueText("5: from 9 on, since 8 is gone", "3 3 2 2 2 2 2 2 0 2", ofEach(shed, 10, 2));
        CHECK.due("8: pointer", 2, shed.account(11));
        ToolShed last = shedWithPointer(10, 9);
        last.give(9, 2);
        CHECK.due("5: leaves with 2", 2, last.leave(9));
        CHECK.dueText("5: from 0 on, since 9 is gone", "2 2 1 1 1 1 1 1 1 0", ofEach(last, 10, 2));
        CHECK.due("8: pointer", 2, last.account(11));
    }

    private static void promise5BehindNumber9ThoseFrom0On() {
        ToolShed shed = shedWithPointer(10, 9);
        shed.give(4, 11);
        CHECK.due("5: leaves with 12", 12, shed.leave(4));
        CHECK.dueText("5: 9 first, then 0 and 1", "3 3 2 2 1 2 2 2 2 2", ofEach(shed, 10, 2));
        CHECK.due("8: pointer", 2, shed.account(11));
        ToolShed end = shedWithPointer(10, 8);
        end.give(0, 1);
        CHECK.due("5: leaves with 2", 2, end.leave(0));
        CHECK.dueText("5: 8 and 9", "1 1 1 1 1 1 1 1 1 1", ofEach(end, 10, 2));
        CHECK.due("8: 0 behind 9", 0, end.account(11));
    }

    private static void promise5NoRemainderLeavesThePointer() {
        ToolShed shed = shedWithPointer(10, 7);
        shed.give(9, 9);
        CHECK.due("5: leaves with 9", 9, shed.leave(9));
        CHECK.dueText("5: one to each", "2 2 2 2 2 2 2 1 1 0", ofEach(shed, 10, 2));
        CHECK.due("8: pointer", 7, shed.account(11));
    }

    /** A tool of this value is lost by this one, and the panel says this word. */
    private static void lose(ToolShed shed, int value, int loser, int word) {
        int tool = shed.tool(PLAIN, value, 0);
        shed.borrow(tool, loser);
        shed.lose(tool);
        CHECK.due("24: one says", 3, shed.say(tool, shed.panelAt(tool, 0, 0), word));
        CHECK.due("24: two say the same", word, shed.say(tool, shed.panelAt(tool, 1, 0), word));
    }

    private static void dueLosses(ToolShed shed, String what, String due, int pointer) {
        CHECK.dueText("24: " + what, due, ofEach(shed, 10, 6, 9));
        CHECK.due("8: pointer behind that", pointer, shed.account(11));
    }

    private static void promise24AllPayBehindNumber9() {
        ToolShed nine = shedWithPointer(10, 9);
        lose(nine, 11, 0, 1);
        dueLosses(nine, "all pay 11, number 9 one more", "1 1 1 1 1 1 1 1 1 2", 0);
        ToolShed loser = shedWithPointer(10, 9);
        lose(loser, 2, 0, 1);
        dueLosses(loser, "number 9 pays, and the loser as any other", "1 0 0 0 0 0 0 0 0 1", 1);
    }

    private static void promise24OthersPayBehindNumber9() {
        ToolShed last = shedWithPointer(10, 9);
        lose(last, 4, 9, 2);
        dueLosses(last, "the loser is 9, so 0 and 1 pay", "1 1 0 0 0 0 0 0 0 2", 2);
        ToolShed first = shedWithPointer(10, 9);
        lose(first, 4, 0, 2);
        dueLosses(first, "the loser is 0, so 9 and 1 pay", "2 1 0 0 0 0 0 0 0 1", 2);
        ToolShed end = shedWithPointer(10, 8);
        lose(end, 5, 0, 2);
        dueLosses(end, "the loser pays the greater half, 8 and 9 the other", "3 0 0 0 0 0 0 0 1 1", 0);
    }

    private static void promise24NothingToShareLeavesThePointer() {
        ToolShed one = shedWithPointer(10, 5);
        lose(one, 1, 0, 2);
        dueLosses(one, "half of 1 is 0", "1 0 0 0 0 0 0 0 0 0", 5);
        ToolShed member = shedWithPointer(10, 5);
        lose(member, 3, 0, 0);
        dueLosses(member, "the member pays", "3 0 0 0 0 0 0 0 0 0", 5);
        ToolShed all = shedWithPointer(10, 5);
        lose(all, 400, 0, 1);
        dueLosses(all, "all pay the most", "40 40 40 40 40 40 40 40 40 40", 5);
        ToolShed half = shedWithPointer(10, 5);
        lose(half, 18, 0, 2);
        dueLosses(half, "nine others pay 9", "9 1 1 1 1 1 1 1 1 1", 5);
    }

    private static void upgrade(ToolShed shed, int cost) {
        shed.propose(0, cost, 1);
        for (int member = 0; member < 5; member++) {
            shed.vote(0, member, 1);
        }
        CHECK.due("28: accepted", 1, shed.vote(0, 5, 1));
    }

    private static void dueUpgrades(ToolShed shed, String what, String due, int pointer) {
        CHECK.dueText("28: " + what, due, ofEach(shed, 10, 7, 10));
        CHECK.due("8: pointer behind that", pointer, shed.account(11));
    }

    private static void promise28CostBehindNumber9() {
        ToolShed one = shedWithPointer(10, 9);
        upgrade(one, 1);
        dueUpgrades(one, "the least cost, for number 9", "0 0 0 0 0 0 0 0 0 1", 0);
        ToolShed most = shedWithPointer(10, 9);
        upgrade(most, 19);
        dueUpgrades(most, "9 one more each, but number 8", "2 2 2 2 2 2 2 2 1 2", 8);
    }

    private static void promise28NoRemainderLeavesThePointer() {
        ToolShed shed = shedWithPointer(10, 6);
        upgrade(shed, 400);
        dueUpgrades(shed, "the most cost", "40 40 40 40 40 40 40 40 40 40", 6);
    }

    private static void promise8PointerComesBackByUndo() {
        ToolShed shed = shedWithPointer(10, 3);
        Check.shareFee(shed, 0, 9);
        CHECK.due("8: pointer", 2, shed.account(11));
        shed.undo();
        CHECK.due("8: pointer as it was", 3, shed.account(11));
    }
}
