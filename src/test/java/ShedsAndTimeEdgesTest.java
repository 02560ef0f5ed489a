/** Promises 30 to 34 at their edges: the agreed day and the next, day 29 to 31 and 3000, no state and four. */
public final class ShedsAndTimeEdgesTest {
    private static final Check CHECK = new Check();
    private static final int PLAIN = 1;

    public static void main(String[] args) {
        promise30InEachPlace();
        promise30LeastAndMost();
        promise31DaysAgreedAndBehind();
        promise31DaysItWasAway();
        promise31NoMemberIsLeft();
        promise31InEachPlace();
        promise32FirstAndLastDay();
        promise32DuesOnEachThirtiethDay();
        promise32DuesOnTheLastDay();
        promise32WhoIsCharged();
        promise33NoneAndAll();
        promise33Settings();
        promise34NoneToFourStates();
        promise34RefusedCallsAreNoStates();
        promise34QuestionsAreNoStates();
        promise34NothingChangesButIsAState();
        promise34UndoIsNoState();
        promise34TheLastOf512Calls();
        CHECK.close("ShedsAndTimeEdgesTest");
    }

    private static void promise30InEachPlace() {
        Twins places = new Twins(CHECK, Check::eachPlace);
        places.dueUndone("30: in the shed", 60, shed -> shed.lendOut(0, 3, 60, 40));
        places.dueNotPossible("30: with a member", shed -> shed.lendOut(1, 0, 1, 0));
        places.dueNotPossible("30: lost", shed -> shed.lendOut(2, 0, 1, 0));
        places.dueNotPossible("30: at another shed", shed -> shed.lendOut(3, 0, 1, 0));
        places.dueNotPossible("30: at this shed", shed -> shed.lendOut(3, 3, 1, 7));
        places.dueNotPossible("30: gone", shed -> shed.lendOut(4, 0, 1, 0));
    }

    private static void promise30LeastAndMost() {
        int[][] ends = {{0, 1, 0}, {3, 60, 40}};
        for (int[] end : ends) {
            ToolShed shed = new ToolShed();
            shed.tool(PLAIN, 1, 0);
            shed.hang(0, 1, 0);
            shed.pass(9);
            CHECK.due("30: due day", 9 + end[1], shed.lendOut(0, end[0], end[1], end[2]));
            CHECK.due("30: at the other shed", end[0], shed.toolOf(0, 4));
            CHECK.due("30: its day", 9 + end[1], shed.toolOf(0, 5));
            CHECK.due("30: its hook is free", Check.NOT_FOUND, shed.hookAt(1, 0));
            shed.member();
            CHECK.due("31: the fee of one day", end[2], shed.comeBack(0));
        }
    }

    private static void promise31DaysAgreedAndBehind() {
        int[] agreed = {1, 2, 7, 60};
        for (int days : agreed) {
            for (int away = days == 1 ? 0 : days - 2; away <= days + 2; away++) {
                ToolShed shed = Check.shedOf(1);
                shed.set(0, 0);
                shed.tool(PLAIN, 1, 0);
                shed.lendOut(0, 0, days, 3);
                Check.pass(shed, away);
                int counted = Math.max(1, away);
                int due = counted <= days ? 3 * counted : 3 * (2 * counted - days);
                CHECK.due("31: " + away + " days of " + days + " agreed", due, shed.comeBack(0));
                CHECK.due("31: shared", due, shed.memberOf(0, 3));
            }
        }
        ToolShed most = Check.shedOf(1);
        most.set(0, 0);
        most.tool(PLAIN, 1, 0);
        most.lendOut(0, 0, 60, 40);
        Check.pass(most, 3000);
        CHECK.due("31: from the first day to the last", 40 * (2 * 3000 - 60), most.comeBack(0));
        ToolShed free = Check.shedOf(1);
        free.tool(PLAIN, 1, 0);
        free.lendOut(0, 0, 1, 0);
        free.pass(20);
        CHECK.due("31: without a fee", 0, free.comeBack(0));
    }

    private static void promise31DaysItWasAway() {
        int[] due = {500, 500, 250, 125};
        for (int days = 0; days < due.length; days++) {
            ToolShed shed = Check.shedOf(1);
            shed.tool(PLAIN, 1, 50);
            shed.lendOut(0, 0, 1, 0);
            Check.pass(shed, days);
            CHECK.due("31: as dull as before", 1000, shed.toolOf(0, 6));
            shed.comeBack(0);
            CHECK.due("31: as dull as behind " + days + " days, one at least", due[days], shed.toolOf(0, 6));
        }
    }

    private static ToolShed lentBy(int members) {
        ToolShed shed = Check.shedOf(members);
        shed.tool(PLAIN, 1, 0);
        shed.lendOut(0, 0, 1, 5);
        return shed;
    }

    private static void promise31NoMemberIsLeft() {
        new Twins(CHECK, () -> lentBy(0)).dueNotPossible("31: no member", shed -> shed.comeBack(0));
        new Twins(CHECK, () -> lentBy(1)).dueUndone("31: one member", 5, shed -> shed.comeBack(0));
        Twins away = new Twins(CHECK, () -> {
            ToolShed shed = lentBy(2);
            shed.leave(0);
            shed.away(1, 1);
            return shed;
        });
        away.dueUndone("31: one is gone, the other one away", 5, shed -> shed.comeBack(0));
    }

    private static void promise31InEachPlace() {
        Twins places = new Twins(CHECK, Check::eachPlace);
        places.dueNotPossible("31: in the shed", shed -> shed.comeBack(0));
        places.dueNotPossible("31: with a member", shed -> shed.comeBack(1));
        places.dueNotPossible("31: lost", shed -> shed.comeBack(2));
        places.dueUndone("31: at another shed", 7, shed -> shed.comeBack(3));
        places.dueNotPossible("31: gone", shed -> shed.comeBack(4));
    }

    private static ToolShed onDay(int day) {
        ToolShed shed = Check.shedOf(2);
        shed.set(0, 1);
        Check.pass(shed, day);
        return shed;
    }

    private static void promise32FirstAndLastDay() {
        Twins first = new Twins(CHECK, () -> onDay(0));
        first.dueUndone("32: from 0, the least", 1, shed -> shed.pass(1));
        first.dueUndone("32: from 0, the most", 60, shed -> shed.pass(60));
        Twins near = new Twins(CHECK, () -> onDay(2940));
        near.dueUndone("32: just to 3000, the most", 3000, shed -> shed.pass(60));
        Twins nearer = new Twins(CHECK, () -> onDay(2941));
        nearer.dueUnchanged("32: to 3001, the most", Check.LIMIT, shed -> shed.pass(60));
        nearer.dueUndone("32: just to 3000", 3000, shed -> shed.pass(59));
        nearer.dueInvalid("32: 61", shed -> shed.pass(61));
        Twins one = new Twins(CHECK, () -> onDay(2999));
        one.dueUndone("32: just to 3000, the least", 3000, shed -> shed.pass(1));
        one.dueUnchanged("32: to 3001", Check.LIMIT, shed -> shed.pass(2));
        Twins last = new Twins(CHECK, () -> onDay(3000));
        last.dueUnchanged("32: to 3001, the least", Check.LIMIT, shed -> shed.pass(1));
        last.dueUnchanged("32: to 3060", Check.LIMIT, shed -> shed.pass(60));
        last.dueInvalid("32: no day", shed -> shed.pass(0));
    }

    private static void promise32DuesOnEachThirtiethDay() {
        int[][] fromTo = {{0, 29}, {0, 30}, {0, 31}, {0, 59}, {0, 60}, {29, 30}, {29, 31}, {29, 59}, {29, 60}, {29, 89},
            {30, 31}, {30, 59}, {30, 60}, {30, 90}, {31, 60}, {31, 90}, {31, 91}, {59, 60}, {60, 61}, {60, 120}};
        for (int[] days : fromTo) {
            ToolShed shed = onDay(days[0]);
            CHECK.due("32: months to day " + days[0], days[0] / 30, shed.memberOf(0, 8));
            shed.pass(days[1] - days[0]);
            CHECK.due("32: months from " + days[0] + " to " + days[1], days[1] / 30, shed.memberOf(0, 8));
        }
    }

    private static void promise32DuesOnTheLastDay() {
        ToolShed shed = onDay(2999);
        CHECK.due("32: months to day 2999", 99, shed.memberOf(1, 8));
        shed.pass(1);
        CHECK.due("32: months to day 3000", 100, shed.memberOf(1, 8));
        ToolShed most = Check.shedOf(1);
        most.set(0, 400);
        Check.pass(most, 3000);
        CHECK.due("32: the most dues of all months", 40000, most.account(8));
    }

    private static void promise32WhoIsCharged() {
        ToolShed shed = Check.shedOf(3);
        shed.away(1, 1);
        shed.leave(2);
        shed.pass(30);
        CHECK.dueText("32: there, away, gone", "20 20 0", shed.memberOf(0, 8) + " " + shed.memberOf(1, 8) + " "
                + shed.memberOf(2, 8));
        shed.member();
        CHECK.due("32: who joins behind that day owes nothing", 0, shed.memberOf(3, 8));
        shed.pass(29);
        CHECK.due("32: to the day ahead of the next", 0, shed.memberOf(3, 8));
        shed.pass(1);
        CHECK.due("32: but on it", 20, shed.memberOf(3, 8));
    }

    private static void promise33NoneAndAll() {
        Twins empty = new Twins(CHECK, ToolShed::new);
        for (int what = 0; what <= 11; what++) {
            int its = what;
            empty.dueUnchanged("33: of an empty shed, " + what, 0, shed -> shed.count(its));
        }
        ToolShed shed = Check.shedOf(10);
        for (int tool = 0; tool < 20; tool++) {
            shed.tool(PLAIN, 1, 1);
        }
        for (int tool = 0; tool < 20; tool++) {
            shed.lendOut(tool, 0, 1, 0);
            CHECK.dueText("33: in the shed, at others", 19 - tool + " " + (tool + 1), shed.count(3) + " "
                    + shed.count(6));
        }
        for (int member = 0; member < 10; member++) {
            shed.away(member, 1);
            CHECK.dueText("33: there, away", 9 - member + " " + (member + 1), shed.count(0) + " " + shed.count(1));
        }
        for (int member = 0; member < 9; member++) {
            shed.leave(member);
            CHECK.dueText("33: away, gone", 9 - member + " " + (member + 1), shed.count(1) + " " + shed.count(2));
        }
        ToolShed places = Check.eachPlace();
        for (int what = 3; what <= 7; what++) {
            CHECK.due("33: one in each place, " + what, 1, places.count(what));
        }
    }

    private static void promise33Settings() {
        int[] first = {20, 7, 1, 2, 600, 80, 10};
        for (int setting = 0; setting < 7; setting++) {
            ToolShed shed = new ToolShed();
            shed.set(setting, 5);
            for (int what = 0; what < 7; what++) {
                CHECK.due("33: setting " + what, what == setting ? 5 : first[what], shed.count(20 + what));
            }
        }
    }

    private static ToolShed withStates(int states) {
        ToolShed shed = new ToolShed();
        for (int i = 0; i < states; i++) {
            shed.set(0, 100 + i);
        }
        return shed;
    }

    private static void promise34NoneToFourStates() {
        new Twins(CHECK, ToolShed::new).dueNotPossible("34: of an empty history", ToolShed::undo);
        for (int changes = 1; changes <= 10; changes++) {
            ToolShed shed = withStates(changes);
            int states = Math.min(4, changes);
            CHECK.due("34: states behind " + changes, states, shed.count(10));
            for (int left = states - 1; left >= 0; left--) {
                CHECK.due("34: states left", left, shed.undo());
                int value = 100 + changes - states + left - 1;
                CHECK.due("34: the state ahead of it", value < 100 ? 20 : value, shed.count(20));
            }
            CHECK.due("34: no state is left", Check.NOT_POSSIBLE, shed.undo());
        }
        ToolShed shed = withStates(4);
        shed.undo();
        shed.undo();
        shed.set(0, 1);
        CHECK.due("34: a change behind two undone ones", 3, shed.count(10));
        shed.undo();
        CHECK.due("34: the state that it recorded", 101, shed.count(20));
    }

    /** Whatever number of states there is, refused calls of each kind of change leave them as they are. */
    private static void promise34RefusedCallsAreNoStates() {
        for (int states = 0; states <= 5; states++) {
            int changes = states;
            Twins some = new Twins(CHECK, () -> withStates(changes));
            String behind = ", behind " + states + " changes";
            some.dueInvalid("34: set" + behind, shed -> shed.set(0, 401));
            some.dueInvalid("34: away" + behind, shed -> shed.away(0, 1));
            some.dueInvalid("34: give" + behind, shed -> shed.give(0, 1));
            some.dueInvalid("34: tool" + behind, shed -> shed.tool(0, 0, 0));
            some.dueNotPossible("34: sharpen" + behind, ToolShed::sharpen);
            some.dueInvalid("34: pass" + behind, shed -> shed.pass(61));
        }
        Twins typed = new Twins(CHECK, () -> {
            ToolShed shed = withStates(5);
            Check.type(shed, "s;");
            return shed;
        });
        typed.dueNotPossible("34: play", ToolShed::play);
    }

    private static void promise34QuestionsAreNoStates() {
        Twins places = new Twins(CHECK, Check::eachPlace);
        places.dueUnchanged("34: memberOf", 3, shed -> shed.memberOf(4, 9));
        places.dueUnchanged("34: account", 3, shed -> shed.account(9));
        places.dueUnchanged("34: debtorAt", 4, shed -> shed.debtorAt(0));
        places.dueUnchanged("34: toolOf", 2, shed -> shed.toolOf(2, 3));
        places.dueUnchanged("34: bits", 0x3f800000, shed -> shed.bits(0));
        places.dueUnchanged("34: dullBehind", 900, shed -> shed.dullBehind(0, 1));
        places.dueUnchanged("34: mean", 1000, shed -> shed.mean(PLAIN));
        places.dueNotFound("34: hookAt", shed -> shed.hookAt(0, 0));
        places.dueUnchanged("34: turnAt", 4, shed -> shed.turnAt(4));
        places.dueNotFound("34: dullAt", shed -> shed.dullAt(0));
        places.dueUnchanged("34: panelAt", 0, shed -> shed.panelAt(2, 0, 0));
        places.dueNotFound("34: proposalOf", shed -> shed.proposalOf(0, 0));
        places.dueUnchanged("34: count", 4, shed -> shed.count(10));
        places.dueNotFound("34: fault", shed -> shed.fault(0));
        for (int states = 0; states <= 5; states++) {
            ToolShed shed = withStates(states);
            shed.type('s');
            CHECK.due("34: type", Math.min(4, states), shed.count(10));
            shed.clearText();
            CHECK.due("34: clearText", Math.min(4, states), shed.count(10));
        }
    }

    private static void promise34NothingChangesButIsAState() {
        Twins places = new Twins(CHECK, Check::eachPlace);
        places.dueUndone("34: the setting as it is", 20, shed -> shed.set(0, 20));
        places.dueUndone("34: there again who is there", 0, shed -> shed.away(4, 0));
        places.dueUndone("34: no orders", 0, ToolShed::play);
        ToolShed shed = withStates(0);
        for (int i = 1; i <= 6; i++) {
            shed.set(0, 20);
            CHECK.due("34: states behind " + i + " such changes", Math.min(4, i), shed.count(10));
        }
    }

    private static void promise34UndoIsNoState() {
        ToolShed shed = withStates(5);
        CHECK.due("34: undo", 3, shed.undo());
        CHECK.due("34: states", 3, shed.count(10));
        CHECK.due("34: undo", 2, shed.undo());
        shed.set(1, 9);
        CHECK.due("34: states", 3, shed.count(10));
        Check.type(shed, "s;");
        shed.undo();
        CHECK.dueText("34: the text stays, the settings don't", "2 102 7", shed.count(11) + " " + shed.count(20) + " "
                + shed.count(21));
        shed.clearText();
        shed.undo();
        CHECK.dueText("34: the text stays empty", "0 101", shed.count(11) + " " + shed.count(20));
    }

    private static void promise34TheLastOf512Calls() {
        ToolShed shed = Check.shedOf(1);
        for (int call = 2; call < 512; call++) {
            CHECK.due("6: credit behind call " + call, 400 * (call - 1), shed.give(0, 400));
        }
        CHECK.due("34: call 512", 3, shed.undo());
    }
}
