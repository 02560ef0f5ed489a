/** Promises 27 to 29 at their edges: one to ten members, just half of them and one more, the last day and the next. */
public final class VotesEdgesTest {
    private static final Check CHECK = new Check();
    private static final int PLAIN = 1;

    public static void main(String[] args) {
        promise27NoMemberIsLeft();
        promise27InEachPlace();
        promise27HasAProposal();
        promise27LeastAndMostDays();
        promise27DroppedOnTheDayBehind();
        promise28MoreThanHalfWithYes();
        promise28HalfWithNo();
        promise28NoOfAllButOne();
        promise28VotesOfGoneOnesCount();
        promise28BothAreAskedInThisOrder();
        promise28Refused();
        promise28InEachPlace();
        promise28WearBecomesLess();
        promise29NotFound();
        promise29NoneAndAllVotes();
        promise29TwentyProposals();
        CHECK.close("VotesEdgesTest");
    }

    private static ToolShed proposed(int members, int cost) {
        ToolShed shed = Check.shedOf(members);
        shed.tool(PLAIN, 3, 10);
        shed.propose(0, cost, 10);
        return shed;
    }

    private static void promise27NoMemberIsLeft() {
        Twins none = new Twins(CHECK, () -> {
            ToolShed shed = new ToolShed();
            shed.tool(PLAIN, 1, 10);
            return shed;
        });
        none.dueNotPossible("27: no member", shed -> shed.propose(0, 1, 1));
        Twins one = new Twins(CHECK, () -> {
            ToolShed shed = Check.shedOf(2);
            shed.tool(PLAIN, 1, 10);
            shed.leave(0);
            shed.away(1, 1);
            return shed;
        });
        one.dueUndone("27: one is gone, the other one away", 10, shed -> shed.propose(0, 1, 1));
    }

    private static void promise27InEachPlace() {
        Twins places = new Twins(CHECK, Check::eachPlace);
        for (int tool = 0; tool < 4; tool++) {
            int one = tool;
            places.dueUndone("27: place " + tool, 10, shed -> shed.propose(one, 400, 10));
        }
        places.dueNotPossible("27: gone", shed -> shed.propose(4, 1, 1));
    }

    private static void promise27HasAProposal() {
        Twins has = new Twins(CHECK, () -> {
            ToolShed shed = proposed(3, 5);
            shed.vote(0, 0, 1);
            return shed;
        });
        has.dueNotPossible("27: the same again", shed -> shed.propose(0, 5, 10));
        has.dueNotPossible("27: another one", shed -> shed.propose(0, 1, 1));
        ToolShed over = proposed(3, 5);
        over.vote(0, 0, 0);
        over.vote(0, 1, 0);
        CHECK.due("27: behind a rejected one", 10, over.propose(0, 1, 10));
        CHECK.due("27: it has no votes", 0, over.proposalOf(0, 3) + over.proposalOf(0, 4));
        CHECK.due("27: who voted votes again", 2, over.vote(0, 0, 0));
        ToolShed done = Check.shedOf(3);
        done.tool(PLAIN, 3, 10);
        done.propose(0, 5, 9);
        done.vote(0, 0, 1);
        done.vote(0, 1, 1);
        CHECK.due("27: behind an accepted one, more than the wear that is left", Check.INVALID, done.propose(0, 1, 2));
        CHECK.due("27: the wear that is left", 10, done.propose(0, 1, 1));
    }

    private static void promise27LeastAndMostDays() {
        int[] days = {1, 10, 60};
        for (int of : days) {
            ToolShed shed = Check.shedOf(1);
            shed.tool(PLAIN, 1, 10);
            shed.pass(5);
            shed.set(6, of);
            CHECK.due("27: the last day of " + of, 5 + of, shed.propose(0, 1, 1));
        }
    }

    private static void promise27DroppedOnTheDayBehind() {
        int[] days = {1, 10, 60};
        for (int of : days) {
            ToolShed shed = Check.shedOf(3);
            shed.set(6, of);
            shed.tool(PLAIN, 1, 10);
            shed.propose(0, 1, 1);
            shed.set(6, 30);
            Check.pass(shed, of);
            CHECK.dueText("27: it stands on the last day of " + of, "1 " + of, shed.count(8) + " "
                    + shed.proposalOf(0, 2));
            CHECK.due("27: a vote on the last day", 2, shed.vote(0, 0, 1));
            shed.pass(1);
            CHECK.dueText("27: it is dropped on the day behind", "0 " + Check.NOT_FOUND, shed.count(8) + " "
                    + shed.proposalOf(0, 2));
            CHECK.due("27: no vote then", Check.NOT_POSSIBLE, shed.vote(0, 1, 1));
            CHECK.due("27: nothing is charged", 0, shed.account(10));
        }
        ToolShed once = proposed(3, 5);
        once.pass(60);
        CHECK.due("27: dropped on the way", 0, once.count(8));
        once.undo();
        CHECK.due("27: undone, it stands", 10, once.proposalOf(0, 2));
    }

    private static void promise28MoreThanHalfWithYes() {
        for (int members = 1; members <= 10; members++) {
            ToolShed shed = proposed(members, 5);
            int enough = members / 2 + 1;
            for (int voter = 0; voter < enough; voter++) {
                boolean last = voter == enough - 1;
                CHECK.due("28: yes " + (voter + 1) + " of " + members, last ? 1 : 2, shed.vote(0, voter, 1));
                CHECK.due("28: charged", last ? 5 : 0, shed.account(10));
                CHECK.due("28: the wear", last ? 0 : 10, shed.toolOf(0, 2));
            }
            CHECK.due("28: it is over", Check.NOT_FOUND, shed.proposalOf(0, 3));
        }
    }

    private static void promise28HalfWithNo() {
        for (int members = 1; members <= 10; members++) {
            ToolShed shed = proposed(members, 5);
            int enough = (members + 1) / 2;
            for (int voter = 0; voter < enough; voter++) {
                boolean last = voter == enough - 1;
                CHECK.due("28: no " + (voter + 1) + " of " + members, last ? 0 : 2, shed.vote(0, voter, 0));
            }
            CHECK.due("28: nothing charged, it is over", 0, shed.account(10) + shed.count(8));
            CHECK.due("28: the wear stays", 10, shed.toolOf(0, 2));
        }
    }

    /** Just half with yes, then with no: the last no rejects it, though there are as many with yes. */
    private static void promise28NoOfAllButOne() {
        for (int members = 2; members <= 10; members += 2) {
            ToolShed shed = proposed(members, 5);
            for (int voter = 0; voter < members; voter++) {
                boolean last = voter == members - 1;
                int yes = voter < members / 2 ? 1 : 0;
                CHECK.due("28: vote " + voter + " of " + members, last ? 0 : 2, shed.vote(0, voter, yes));
            }
        }
    }

    private static void promise28VotesOfGoneOnesCount() {
        for (int gone = 0; gone <= 4; gone++) {
            ToolShed shed = proposed(10, 10 - gone);
            for (int voter = 0; voter < 4; voter++) {
                shed.vote(0, voter, 1);
            }
            for (int leaver = 0; leaver < gone; leaver++) {
                shed.leave(leaver);
            }
            CHECK.due("28: it stands when they have left", 4, shed.proposalOf(0, 3));
            int due = 2 * 5 > 10 - gone ? 1 : 2;
            CHECK.due("28: the fifth yes when " + gone + " are gone", due, shed.vote(0, 9, 1));
            CHECK.due("28: those who are left are charged", due == 1 ? 1 : 0, shed.memberOf(9, 10));
            CHECK.due("28: a gone one is not", gone == 0 ? due % 2 : 0, shed.memberOf(0, 10));
        }
    }

    private static void promise28BothAreAskedInThisOrder() {
        ToolShed shed = proposed(6, 5);
        shed.vote(0, 0, 1);
        shed.vote(0, 1, 1);
        shed.vote(0, 2, 0);
        for (int leaver = 0; leaver < 3; leaver++) {
            shed.leave(leaver);
        }
        CHECK.due("28: more than half with yes, and enough with no", 1, shed.vote(0, 3, 0));
        ToolShed no = proposed(6, 5);
        no.vote(0, 0, 0);
        no.vote(0, 1, 0);
        no.leave(0);
        no.leave(1);
        CHECK.due("28: a yes, but half of those left are with no", 0, no.vote(0, 2, 1));
    }

    private static void promise28Refused() {
        Twins some = new Twins(CHECK, () -> {
            ToolShed shed = Check.shedOf(6);
            shed.tool(PLAIN, 3, 10);
            shed.tool(PLAIN, 3, 10);
            shed.propose(0, 5, 10);
            shed.vote(0, 0, 1);
            shed.vote(0, 5, 0);
            shed.leave(4);
            return shed;
        });
        for (int yes = 0; yes < 2; yes++) {
            int vote = yes;
            some.dueNotPossible("28: has voted yes", shed -> shed.vote(0, 0, vote));
            some.dueNotPossible("28: has voted no", shed -> shed.vote(0, 5, vote));
            some.dueNotPossible("28: is gone", shed -> shed.vote(0, 4, vote));
            some.dueNotPossible("28: no proposal", shed -> shed.vote(1, 1, vote));
            some.dueUndone("28: the next vote", 2, shed -> shed.vote(0, 1, vote));
        }
    }

    private static void promise28InEachPlace() {
        Twins places = new Twins(CHECK, () -> {
            ToolShed shed = Check.eachPlace();
            for (int tool = 0; tool < 4; tool++) {
                proposeWithThreeOfSix(shed, tool);
            }
            return shed;
        });
        for (int tool = 0; tool < 4; tool++) {
            int one = tool;
            places.dueUndone("28: place " + tool, 1, shed -> shed.vote(one, 5, 1));
        }
        places.dueNotPossible("28: gone", shed -> shed.vote(4, 5, 1));
        ToolShed gone = Check.eachPlace();
        proposeWithThreeOfSix(gone, 2);
        gone.say(2, 0, 0);
        gone.say(2, 3, 0);
        CHECK.dueText("28: dropped when its tool is gone", "0 " + Check.NOT_POSSIBLE, gone.count(8) + " "
                + gone.vote(2, 5, 1));
    }

    private static void proposeWithThreeOfSix(ToolShed shed, int tool) {
        shed.propose(tool, 10, 10);
        for (int voter = 0; voter < 3; voter++) {
            shed.vote(tool, voter, 1);
        }
    }

    private static void promise28WearBecomesLess() {
        int[][] betters = {{50, 1, 49}, {50, 49, 1}, {50, 50, 0}, {1, 1, 0}};
        for (int[] better : betters) {
            ToolShed shed = Check.shedOf(1);
            shed.tool(PLAIN, 1, better[0]);
            shed.propose(0, 1, better[1]);
            shed.vote(0, 0, 1);
            CHECK.due("28: wear " + better[0] + " less " + better[1], better[2], shed.toolOf(0, 2));
        }
    }

    private static void promise29NotFound() {
        Twins places = new Twins(CHECK, Check::eachPlace);
        for (int tool = 0; tool < 5; tool++) {
            for (int what = 0; what < 5; what++) {
                int one = tool;
                int its = what;
                places.dueNotFound("29: no proposal", shed -> shed.proposalOf(one, its));
            }
        }
        places.dueInvalid("29: no proposal, what 5", shed -> shed.proposalOf(0, 5));
    }

    private static void promise29NoneAndAllVotes() {
        ToolShed shed = proposed(10, 400);
        int[] none = {400, 10, 10, 0, 0};
        for (int what = 0; what < 5; what++) {
            CHECK.due("29: without votes, " + what, none[what], shed.proposalOf(0, what));
        }
        for (int voter = 0; voter < 9; voter++) {
            shed.vote(0, voter, voter < 5 ? 1 : 0);
        }
        int[] nine = {400, 10, 10, 5, 4};
        for (int what = 0; what < 5; what++) {
            CHECK.due("29: with nine votes, " + what, nine[what], shed.proposalOf(0, what));
        }
        CHECK.due("28: the tenth of ten", 0, shed.vote(0, 9, 0));
        ToolShed yes = proposed(10, 400);
        for (int voter = 0; voter < 9; voter++) {
            yes.vote(0, voter, voter < 5 ? 1 : 0);
        }
        CHECK.due("28: the tenth of ten with yes", 1, yes.vote(0, 9, 1));
    }

    private static void promise29TwentyProposals() {
        ToolShed shed = Check.shedOf(2);
        for (int tool = 0; tool < 20; tool++) {
            shed.tool(PLAIN, 1, 1 + tool);
            shed.propose(tool, 1 + tool, 1 + tool);
            CHECK.due("33: proposals", tool + 1, shed.count(8));
        }
        for (int tool = 0; tool < 20; tool++) {
            CHECK.due("29: cost of " + tool, tool + 1, shed.proposalOf(tool, 0));
        }
        CHECK.due("28: rejected, the last one", 0, shed.vote(19, 1, 0));
        CHECK.due("33: one less", 19, shed.count(8));
        shed.pass(10);
        CHECK.due("33: all on the last day", 19, shed.count(8));
        shed.pass(1);
        CHECK.due("33: none behind it", 0, shed.count(8));
    }
}
