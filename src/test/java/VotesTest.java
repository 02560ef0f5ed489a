/** Promises 27 to 29: upgrades by vote. */
public final class VotesTest {
    private static final Check CHECK = new Check();

    public static void main(String[] args) {
        promise27Propose();
        promise27LastDay();
        promise28Vote();
        promise28HalfIsNotMore();
        promise28VotesOfGoneOnes();
        promise28BothAreAsked();
        promise28Cost();
        promise29ProposalOf();
        CHECK.close("VotesTest");
    }

    private static void promise27Propose() {
        ToolShed empty = new ToolShed();
        empty.tool(0, 5, 30);
        CHECK.due("no member", Check.NOT_POSSIBLE, empty.propose(0, 1, 1));
        CHECK.due("no member, and a wrong argument", Check.INVALID, empty.propose(0, 1, 31));

        ToolShed shed = Check.shedOf(5);
        shed.tool(0, 5, 30);
        shed.tool(0, 5, 0);
        shed.tool(0, 5, 30);
        CHECK.due("propose(0, 0, 1)", Check.INVALID, shed.propose(0, 0, 1));
        CHECK.due("propose(0, 401, 1)", Check.INVALID, shed.propose(0, 401, 1));
        CHECK.due("propose(0, 1, 0)", Check.INVALID, shed.propose(0, 1, 0));
        CHECK.due("more than its wear", Check.INVALID, shed.propose(0, 1, 31));
        CHECK.due("no wear", Check.INVALID, shed.propose(1, 1, 1));
        CHECK.due("propose(3, 1, 1)", Check.INVALID, shed.propose(3, 1, 1));
        CHECK.due("propose(-1, 1, 1)", Check.INVALID, shed.propose(-1, 1, 1));
        CHECK.due("the most", 10, shed.propose(0, 400, 30));
        CHECK.due("has one", Check.NOT_POSSIBLE, shed.propose(0, 1, 1));
        CHECK.due("has one, and a wrong argument", Check.INVALID, shed.propose(0, 401, 1));
        shed.borrow(2, 0);
        CHECK.due("a lent one, the least", 10, shed.propose(2, 1, 1));
        shed.vote(2, 0, 0);
        shed.vote(2, 1, 0);
        shed.vote(2, 2, 0);
        shed.lose(2);
        CHECK.due("a lost one", 10, shed.propose(2, 1, 1));
        shed.say(2, 1, 0);
        shed.say(2, 2, 0);
        CHECK.due("a gone one", Check.NOT_POSSIBLE, shed.propose(2, 1, 1));
    }

    private static void promise27LastDay() {
        ToolShed shed = Check.shedOf(3);
        shed.tool(0, 5, 30);
        shed.pass(4);
        shed.set(6, 3);
        CHECK.due("last day", 7, shed.propose(0, 5, 5));
        shed.set(6, 60);
        shed.vote(0, 0, 0);
        shed.undo();
        shed.vote(0, 0, 1);
        shed.pass(3);
        CHECK.due("on the last day", 1, shed.count(8));
        CHECK.due("its last day stays", 7, shed.proposalOf(0, 2));
        shed.pass(1);
        CHECK.due("it is dropped", 0, shed.count(8));
        CHECK.due("there is none", Check.NOT_FOUND, shed.proposalOf(0, 3));
        CHECK.due("nobody can vote", Check.NOT_POSSIBLE, shed.vote(0, 1, 1));
        CHECK.due("a new one", 68, shed.propose(0, 9, 8));
        CHECK.due("old votes are none of it", 0, shed.proposalOf(0, 3));
        CHECK.due("who voted can vote again", 2, shed.vote(0, 0, 1));
        shed.undo();
        shed.undo();
        shed.undo();
        int[] old = {5, 5, 7, 1, 0};
        for (int what = 0; what < old.length; what++) {
            CHECK.due("undone, it is there again: " + what, old[what], shed.proposalOf(0, what));
        }
        votesWithNoAreNoneOfANewOne();
    }

    private static void votesWithNoAreNoneOfANewOne() {
        ToolShed shed = Check.shedOf(3);
        shed.tool(0, 5, 30);
        shed.propose(0, 5, 5);
        shed.vote(0, 0, 0);
        shed.pass(11);
        shed.propose(0, 5, 5);
        CHECK.due("old votes with no are none of it", 0, shed.proposalOf(0, 4));
        CHECK.due("one of three rejects nothing", 2, shed.vote(0, 1, 0));
    }

    private static void promise28Vote() {
        ToolShed shed = Check.shedOf(5);
        shed.tool(0, 5, 30);
        CHECK.due("no proposal", Check.NOT_POSSIBLE, shed.vote(0, 0, 1));
        shed.propose(0, 5, 5);
        CHECK.due("vote(1, 0, 1)", Check.INVALID, shed.vote(1, 0, 1));
        CHECK.due("vote(-1, 0, 1)", Check.INVALID, shed.vote(-1, 0, 1));
        CHECK.due("vote(0, 5, 1)", Check.INVALID, shed.vote(0, 5, 1));
        CHECK.due("vote(0, -1, 1)", Check.INVALID, shed.vote(0, -1, 1));
        CHECK.due("vote(0, 0, 2)", Check.INVALID, shed.vote(0, 0, 2));
        CHECK.due("vote(0, 0, -1)", Check.INVALID, shed.vote(0, 0, -1));
        CHECK.due("a yes", 2, shed.vote(0, 0, 1));
        CHECK.due("a no", 2, shed.vote(0, 1, 0));
        CHECK.due("has voted yes", Check.NOT_POSSIBLE, shed.vote(0, 0, 0));
        CHECK.due("has voted no", Check.NOT_POSSIBLE, shed.vote(0, 1, 1));
        shed.away(2, 1);
        CHECK.due("an away one votes", 2, shed.vote(0, 2, 1));
        shed.leave(3);
        CHECK.due("a gone one", Check.NOT_POSSIBLE, shed.vote(0, 3, 1));
        CHECK.due("a gone one, and a wrong argument", Check.INVALID, shed.vote(0, 3, 2));
        CHECK.due("three of four", 1, shed.vote(0, 4, 1));
        CHECK.due("the wear is less", 25, shed.toolOf(0, 2));
        CHECK.due("no proposal is left", Check.NOT_POSSIBLE, shed.vote(0, 3, 1));
    }

    private static void promise28HalfIsNotMore() {
        ToolShed shed = Check.shedOf(4);
        shed.tool(0, 5, 30);
        shed.propose(0, 5, 5);
        shed.vote(0, 0, 1);
        CHECK.due("half with yes is not enough", 2, shed.vote(0, 1, 1));
        shed.vote(0, 2, 0);
        CHECK.due("half with no is", 0, shed.vote(0, 3, 0));
        CHECK.due("the wear stays", 30, shed.toolOf(0, 2));
        CHECK.due("nothing is charged", 0, shed.account(10));
        CHECK.due("it is over", 0, shed.count(8));
        ToolShed odd = Check.shedOf(3);
        odd.tool(0, 5, 30);
        odd.propose(0, 5, 5);
        CHECK.due("one of three", 2, odd.vote(0, 0, 0));
        CHECK.due("two of three", 0, odd.vote(0, 1, 0));
        ToolShed lone = Check.shedOf(1);
        lone.tool(0, 5, 30);
        lone.propose(0, 5, 30);
        CHECK.due("one of one", 1, lone.vote(0, 0, 1));
        CHECK.due("no wear is left", 0, lone.toolOf(0, 2));
    }

    private static void promise28VotesOfGoneOnes() {
        ToolShed shed = Check.shedOf(4);
        shed.tool(0, 5, 30);
        shed.propose(0, 5, 5);
        shed.vote(0, 0, 1);
        shed.leave(0);
        CHECK.due("leaving decides nothing", 1, shed.count(8));
        CHECK.due("it counts since", 1, shed.proposalOf(0, 3));
        CHECK.due("two of three who are left", 1, shed.vote(0, 1, 1));
        CHECK.due("a gone one is not charged", 0, shed.memberOf(0, 10));
    }

    /** One vote with no makes the votes with yes more than half, since members have left between. */
    private static void promise28BothAreAsked() {
        ToolShed shed = Check.shedOf(5);
        shed.tool(0, 5, 30);
        shed.propose(0, 5, 5);
        shed.vote(0, 0, 1);
        shed.vote(0, 1, 1);
        shed.leave(0);
        shed.leave(1);
        CHECK.due("accepted by a vote with no", 1, shed.vote(0, 2, 0));
        CHECK.due("the wear is less", 25, shed.toolOf(0, 2));
        ToolShed other = Check.shedOf(6);
        other.tool(0, 5, 30);
        other.propose(0, 5, 5);
        other.vote(0, 0, 0);
        other.vote(0, 1, 0);
        other.leave(0);
        other.leave(1);
        CHECK.due("rejected by a vote with yes", 0, other.vote(0, 2, 1));
    }

    private static void promise28Cost() {
        ToolShed shed = Check.shedOf(4);
        shed.tool(0, 5, 30);
        shed.give(1, 9);
        shed.away(2, 1);
        shed.leave(3);
        shed.propose(0, 11, 5);
        shed.vote(0, 0, 1);
        CHECK.due("accepted", 1, shed.vote(0, 1, 1));
        CHECK.due("one more", 4, shed.memberOf(0, 10));
        CHECK.dueText("credit pays, as upgrades", "5 0 0 0 4 0 0 0", Check.numbers(shed, 1, 3, 10));
        CHECK.due("an away one is charged", 3, shed.memberOf(2, 10));
        CHECK.due("a gone one is not", 0, shed.memberOf(3, 10));
        CHECK.due("pointer", 2, shed.account(11));
    }

    private static void promise29ProposalOf() {
        ToolShed shed = Check.shedOf(6);
        shed.tool(0, 5, 30);
        CHECK.due("none", Check.NOT_FOUND, shed.proposalOf(0, 0));
        shed.pass(1);
        shed.propose(0, 123, 17);
        shed.vote(0, 1, 1);
        shed.vote(0, 5, 0);
        shed.vote(0, 3, 0);
        int[] due = {123, 17, 11, 1, 2};
        for (int what = 0; what < due.length; what++) {
            CHECK.due("proposalOf(0, " + what + ")", due[what], shed.proposalOf(0, what));
        }
        CHECK.due("proposalOf(0, 5)", Check.INVALID, shed.proposalOf(0, 5));
        CHECK.due("proposalOf(0, -1)", Check.INVALID, shed.proposalOf(0, -1));
        CHECK.due("proposalOf(1, 0)", Check.INVALID, shed.proposalOf(1, 0));
        CHECK.due("proposalOf(-1, 0)", Check.INVALID, shed.proposalOf(-1, 0));
        shed.vote(0, 0, 0);
        CHECK.due("rejected", Check.NOT_FOUND, shed.proposalOf(0, 4));
        CHECK.due("rejected, and a wrong argument", Check.INVALID, shed.proposalOf(0, 5));
    }
}
