/** Promises 23 to 26: lost tools and their panels. */
public final class PanelsTest {
    private static final Check CHECK = new Check();

    public static void main(String[] args) {
        promise23Lose();
        promise23FewestPanels();
        promise24Say();
        promise24MemberPays();
        promise24AllPay();
        promise24HalfAndHalf();
        promise24SharesPassTheLoser();
        promise24GoneToolHasNoProposal();
        promise25Find();
        promise26PanelAt();
        CHECK.close("PanelsTest");
    }

    /** Members, and plain tools without wear of these values, of which member 0 has the first ones. */
    private static ToolShed shedWith(int members, int... values) {
        ToolShed shed = Check.shedOf(members);
        for (int i = 0; i < values.length; i++) {
            shed.tool(1, values[i], 0);
            shed.borrow(i, 0);
        }
        return shed;
    }

    private static void duePanel(ToolShed shed, String name, int tool, int first, int second, int third) {
        CHECK.due(name + ": first", first, shed.panelAt(tool, 0, 0));
        CHECK.due(name + ": second", second, shed.panelAt(tool, 1, 0));
        CHECK.due(name + ": third", third, shed.panelAt(tool, 2, 0));
    }

    private static void promise23Lose() {
        ToolShed shed = shedWith(5, 10);
        shed.tool(1, 5, 0);
        CHECK.due("lose(2)", Check.INVALID, shed.lose(2));
        CHECK.due("lose(-1)", Check.INVALID, shed.lose(-1));
        CHECK.due("no member has it", Check.NOT_POSSIBLE, shed.lose(1));
        shed.lendOut(1, 0, 1, 1);
        CHECK.due("another shed has it", Check.NOT_POSSIBLE, shed.lose(1));
        shed.away(1, 1);
        shed.away(2, 1);
        CHECK.due("two members are there", Check.NOT_POSSIBLE, shed.lose(0));
        CHECK.due("no panel is called then", 0, shed.account(11) + shed.memberOf(3, 11) + shed.memberOf(4, 11));
        shed.away(2, 0);
        CHECK.due("three members are there", 2, shed.lose(0));
        duePanel(shed, "panel", 0, 2, 3, 4);
        CHECK.due("it is lost", 2, shed.toolOf(0, 3));
        CHECK.due("the lost one counts no more", 0, shed.memberOf(0, 12));
        CHECK.due("lost already", Check.NOT_POSSIBLE, shed.lose(0));
        ToolShed small = shedWith(3, 10);
        CHECK.due("the loser is not in it", Check.NOT_POSSIBLE, small.lose(0));
        ToolShed away = shedWith(4, 10);
        away.away(0, 1);
        CHECK.due("an away one loses it", 1, away.lose(0));
    }

    private static void promise23FewestPanels() {
        ToolShed shed = shedWith(7, 10, 10, 10);
        CHECK.due("the lowest numbers", 1, shed.lose(0));
        duePanel(shed, "first panel", 0, 1, 2, 3);
        CHECK.due("fewest panels", 4, shed.lose(1));
        duePanel(shed, "second panel", 1, 4, 5, 6);
        shed.away(2, 1);
        CHECK.due("all equal again", 1, shed.lose(2));
        duePanel(shed, "third panel", 2, 1, 3, 4);
        CHECK.due("panels of 1", 2, shed.memberOf(1, 11));
        CHECK.due("panels of 2", 1, shed.memberOf(2, 11));
        shed.away(2, 0);
        shed.find(0);
        shed.borrow(0, 5);
        CHECK.due("who has none so far is ahead of lower numbers", 0, shed.lose(0));
        duePanel(shed, "in order by numbers", 0, 0, 2, 6);
    }

    private static void promise24Say() {
        ToolShed shed = shedWith(5, 10);
        CHECK.due("not lost", Check.NOT_POSSIBLE, shed.say(0, 1, 0));
        shed.lose(0);
        CHECK.due("say(1, 1, 0)", Check.INVALID, shed.say(1, 1, 0));
        CHECK.due("say(-1, 1, 0)", Check.INVALID, shed.say(-1, 1, 0));
        CHECK.due("say(0, 5, 0)", Check.INVALID, shed.say(0, 5, 0));
        CHECK.due("say(0, -1, 0)", Check.INVALID, shed.say(0, -1, 0));
        CHECK.due("say(0, 1, 3)", Check.INVALID, shed.say(0, 1, 3));
        CHECK.due("say(0, 1, -1)", Check.INVALID, shed.say(0, 1, -1));
        CHECK.due("the loser", Check.NOT_POSSIBLE, shed.say(0, 0, 0));
        CHECK.due("not in the panel", Check.NOT_POSSIBLE, shed.say(0, 4, 0));
        shed.away(1, 1);
        CHECK.due("an away one may say", 3, shed.say(0, 1, 2));
        CHECK.due("has said something", Check.NOT_POSSIBLE, shed.say(0, 1, 2));
        CHECK.due("two unlike words decide nothing", 3, shed.say(0, 3, 0));
        CHECK.due("it is lost still", 2, shed.toolOf(0, 3));
        CHECK.due("three unlike words", 2, shed.say(0, 2, 1));
        CHECK.due("it is gone", 4, shed.toolOf(0, 3));
        CHECK.due("gone is not lost", Check.NOT_POSSIBLE, shed.say(0, 2, 1));
    }

    private static void promise24MemberPays() {
        ToolShed shed = shedWith(5, 11);
        shed.give(0, 4);
        shed.lose(0);
        shed.say(0, 1, 0);
        shed.say(0, 2, 1);
        CHECK.due("two of three", 0, shed.say(0, 3, 0));
        CHECK.dueText("all of the value", "0 0 0 4 0 0 7 0", Check.numbers(shed, 0, 3, 10));
        CHECK.due("nobody else", 7, shed.account(9));
        CHECK.due("no pointer", 0, shed.account(11));
    }

    private static void promise24AllPay() {
        ToolShed shed = shedWith(6, 11);
        shed.leave(5);
        shed.away(4, 1);
        shed.lose(0);
        shed.say(0, 1, 1);
        CHECK.due("two of two", 1, shed.say(0, 2, 1));
        CHECK.due("the loser gets one more", 3, shed.memberOf(0, 9));
        CHECK.due("the others", 2, shed.memberOf(1, 9));
        CHECK.due("away ones too", 2, shed.memberOf(4, 9));
        CHECK.due("gone ones not", 0, shed.memberOf(5, 9));
        CHECK.due("pointer", 1, shed.account(11));
    }

    private static void promise24HalfAndHalf() {
        ToolShed shed = shedWith(5, 11);
        shed.lose(0);
        shed.say(0, 1, 2);
        CHECK.due("half and half", 2, shed.say(0, 3, 2));
        CHECK.due("the greater half", 6, shed.memberOf(0, 9));
        CHECK.due("one more", 2, shed.memberOf(1, 9));
        CHECK.due("the others", 1, shed.memberOf(2, 9) * shed.memberOf(3, 9) * shed.memberOf(4, 9));
        CHECK.due("all of it", 11, shed.account(9));
        CHECK.due("pointer", 2, shed.account(11));
        ToolShed least = shedWith(4, 1);
        least.lose(0);
        least.say(0, 1, 2);
        least.say(0, 3, 2);
        CHECK.due("half of 1 is 0", 1, least.memberOf(0, 9));
        CHECK.due("for the others", 1, least.account(9));
    }

    private static void promise24SharesPassTheLoser() {
        ToolShed shed = Check.shedOf(4);
        shed.tool(1, 10, 0);
        shed.tool(1, 1, 0);
        shed.lendOut(1, 0, 1, 3);
        shed.comeBack(1);
        shed.borrow(0, 3);
        shed.lose(0);
        shed.say(0, 0, 2);
        shed.say(0, 1, 2);
        CHECK.due("the pointer stood at 3, who is left out, so 0 gets one more", 2, charged(shed, 0));
        CHECK.due("1 gets one more", 2, charged(shed, 1));
        CHECK.due("2 gets none more", 1, charged(shed, 2));
        CHECK.due("the loser", 5, charged(shed, 3));
        CHECK.due("pointer", 2, shed.account(11));
    }

    private static int charged(ToolShed shed, int member) {
        return shed.memberOf(member, 6) + shed.memberOf(member, 9);
    }

    private static void promise24GoneToolHasNoProposal() {
        ToolShed shed = Check.shedOf(4);
        shed.tool(1, 10, 5);
        shed.propose(0, 7, 5);
        shed.borrow(0, 0);
        shed.lose(0);
        CHECK.due("a lost one keeps its proposal", 1, shed.count(8));
        shed.say(0, 1, 0);
        shed.say(0, 2, 0);
        CHECK.due("it is dropped", 0, shed.count(8));
        CHECK.due("nobody can vote", Check.NOT_POSSIBLE, shed.vote(0, 0, 1));
    }

    private static void promise25Find() {
        ToolShed shed = Check.shedOf(5);
        shed.tool(0, 10, 50);
        shed.borrow(0, 0);
        CHECK.due("not lost", Check.NOT_POSSIBLE, shed.find(0));
        shed.lose(0);
        shed.pass(9);
        CHECK.due("nobody has said anything", 0, shed.find(0));
        CHECK.due("it is in the shed", 0, shed.toolOf(0, 3));
        CHECK.due("as dull as it was", 1000, shed.toolOf(0, 6));
        CHECK.due("nothing is charged", 0, shed.account(9) + shed.account(6));
        CHECK.due("the panel counts all the same", 1, shed.memberOf(1, 11));
        CHECK.due("found already", Check.NOT_POSSIBLE, shed.find(0));
        shed.borrow(0, 0);
        shed.lose(0);
        CHECK.due("a new panel has said nothing", Check.NOT_FOUND, shed.panelAt(0, 1, 1));
        shed.say(0, shed.panelAt(0, 0, 0), 1);
        shed.say(0, shed.panelAt(0, 1, 0), 2);
        CHECK.due("two have said something", 2, shed.find(0));
        shed.borrow(0, 0);
        shed.lose(0);
        shed.say(0, shed.panelAt(0, 0, 0), 1);
        shed.say(0, shed.panelAt(0, 1, 0), 1);
        CHECK.due("decided", Check.NOT_POSSIBLE, shed.find(0));
        CHECK.due("find(1)", Check.INVALID, shed.find(1));
        CHECK.due("find(-1)", Check.INVALID, shed.find(-1));
    }

    private static void promise26PanelAt() {
        ToolShed shed = shedWith(5, 10);
        CHECK.due("not lost", Check.NOT_FOUND, shed.panelAt(0, 0, 0));
        shed.lose(0);
        shed.say(0, 3, 2);
        shed.say(0, 1, 0);
        duePanel(shed, "panel", 0, 1, 2, 3);
        CHECK.due("word of 1", 0, shed.panelAt(0, 0, 1));
        CHECK.due("2 has said nothing", Check.NOT_FOUND, shed.panelAt(0, 1, 1));
        CHECK.due("word of 3", 2, shed.panelAt(0, 2, 1));
        CHECK.due("panelAt(0, 3, 0)", Check.INVALID, shed.panelAt(0, 3, 0));
        CHECK.due("panelAt(0, -1, 0)", Check.INVALID, shed.panelAt(0, -1, 0));
        CHECK.due("panelAt(0, 0, 2)", Check.INVALID, shed.panelAt(0, 0, 2));
        CHECK.due("panelAt(0, 0, -1)", Check.INVALID, shed.panelAt(0, 0, -1));
        CHECK.due("panelAt(1, 0, 0)", Check.INVALID, shed.panelAt(1, 0, 0));
        CHECK.due("panelAt(-1, 0, 0)", Check.INVALID, shed.panelAt(-1, 0, 0));
        shed.find(0);
        CHECK.due("found: member", Check.NOT_FOUND, shed.panelAt(0, 0, 0));
        CHECK.due("found: word", Check.NOT_FOUND, shed.panelAt(0, 0, 1));
    }
}
