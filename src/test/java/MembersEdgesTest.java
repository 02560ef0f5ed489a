/** Promises 1 to 9 at their edges: no members and ten, the last that is taken, the first that is refused. */
public final class MembersEdgesTest {
    private static final Check CHECK = new Check();

    public static void main(String[] args) {
        promise1EmptyShedHasNoMemberOrTool();
        promise1EmptyShedFindsNothing();
        promise1FirstCalls();
        promise2SameValueIsAChange();
        promise2LeastAndMostAreUsed();
        promise3TenHaveJoined();
        promise3AllIsZeroAtFirst();
        promise4EachWayToAndFro();
        promise4AwayOfAGoneOne();
        promise5GoneHasToolOrLostOne();
        promise5HasSomethingOpen();
        promise5IsInAPanelThatIsNotOver();
        promise5NoOtherOneIsLeft();
        promise5CreditsOfNoneAndOfOne();
        promise6PaysJustWhatIsOpen();
        promise6GoneOneGivesNothing();
        promise7FirstAndLastOfTen();
        promise8GoneOnesIncluded();
        promise9NoDebtorAndTen();
        promise9OneQuarterIsEnough();
        CHECK.close("MembersEdgesTest");
    }

    private static void promise1EmptyShedHasNoMemberOrTool() {
        Twins empty = new Twins(CHECK, ToolShed::new);
        empty.dueInvalid("1: away(0, 1)", shed -> shed.away(0, 1));
        empty.dueInvalid("1: leave(0)", shed -> shed.leave(0));
        empty.dueInvalid("1: give(0, 1)", shed -> shed.give(0, 1));
        empty.dueInvalid("1: memberOf(0, 0)", shed -> shed.memberOf(0, 0));
        empty.dueInvalid("1: memberOf(0, 13)", shed -> shed.memberOf(0, 13));
        empty.dueInvalid("1: swap(0, 1)", shed -> shed.swap(0, 1));
        empty.dueInvalid("1: hang(0, 0, 0)", shed -> shed.hang(0, 0, 0));
        empty.dueInvalid("1: borrow(0, 0)", shed -> shed.borrow(0, 0));
        empty.dueInvalid("1: giveBack(0)", shed -> shed.giveBack(0));
        empty.dueInvalid("1: toolOf(0, 0)", shed -> shed.toolOf(0, 0));
        empty.dueInvalid("1: bits(0)", shed -> shed.bits(0));
        empty.dueInvalid("1: dullBehind(0, 1)", shed -> shed.dullBehind(0, 1));
        empty.dueInvalid("1: lose(0)", shed -> shed.lose(0));
        empty.dueInvalid("1: say(0, 0, 0)", shed -> shed.say(0, 0, 0));
        empty.dueInvalid("1: find(0)", shed -> shed.find(0));
        empty.dueInvalid("1: panelAt(0, 0, 0)", shed -> shed.panelAt(0, 0, 0));
        empty.dueInvalid("1: propose(0, 1, 1)", shed -> shed.propose(0, 1, 1));
        empty.dueInvalid("1: vote(0, 0, 1)", shed -> shed.vote(0, 0, 1));
        empty.dueInvalid("1: proposalOf(0, 0)", shed -> shed.proposalOf(0, 0));
        empty.dueInvalid("1: lendOut(0, 0, 1, 0)", shed -> shed.lendOut(0, 0, 1, 0));
        empty.dueInvalid("1: comeBack(0)", shed -> shed.comeBack(0));
    }

    private static void promise1EmptyShedFindsNothing() {
        Twins empty = new Twins(CHECK, ToolShed::new);
        empty.dueNotPossible("1: sharpen()", ToolShed::sharpen);
        empty.dueNotPossible("1: undo()", ToolShed::undo);
        empty.dueNotFound("1: debtorAt(0)", shed -> shed.debtorAt(0));
        empty.dueNotFound("1: turnAt(0)", shed -> shed.turnAt(0));
        empty.dueNotFound("1: dullAt(0)", shed -> shed.dullAt(0));
        empty.dueNotFound("1: mean(0)", shed -> shed.mean(0));
        empty.dueNotFound("1: mean(1)", shed -> shed.mean(1));
        empty.dueNotFound("1: fault(0)", shed -> shed.fault(0));
        empty.dueNotFound("1: fault(1)", shed -> shed.fault(1));
        empty.dueUnchanged("1: clearText()", 0, ToolShed::clearText);
        for (int hook = 0; hook < 12; hook++) {
            int at = hook;
            empty.dueNotFound("1: hook " + hook, shed -> shed.hookAt(at / 4, at % 4));
        }
    }

    private static void promise1FirstCalls() {
        Twins empty = new Twins(CHECK, ToolShed::new);
        empty.dueUndone("1: the first member", 0, ToolShed::member);
        empty.dueUndone("1: the first tool", 0, shed -> shed.tool(0, 1, 0));
        empty.dueUndone("1: the first day", 1, shed -> shed.pass(1));
        empty.dueUndone("1: the first setting", 20, shed -> shed.set(0, 0));
        empty.dueUndone("1: no orders", 0, ToolShed::play);
        CHECK.due("1: the first character", 1, new ToolShed().type('s'));
    }

    private static void promise2SameValueIsAChange() {
        Twins ten = new Twins(CHECK, () -> Check.shedOf(10));
        ten.dueUndone("2: the same value again", 20, shed -> shed.set(0, 20));
        ten.dueUndone("2: another value", 10, shed -> shed.set(6, 60));
    }

    private static void promise2LeastAndMostAreUsed() {
        int[][] ends = {{0, 400}, {1, 60}, {0, 20}, {0, 40}, {0, 1000}, {0, 100}, {1, 60}};
        int[][] due = {{0, 400}, {1, 60}, {0, 20}, {0, 40}, {Check.NOT_FOUND, 0}, {500, 1000}, {1, 60}};
        for (int what = 0; what < 7; what++) {
            for (int end = 0; end < 2; end++) {
                int got = usedAs(what, ends[what][end]);
                CHECK.due("2: setting " + what + " is used as " + ends[what][end], due[what][end], got);
            }
        }
    }

    /** What comes of a setting: dues, due day, charge of a day too late, quarters for a sharpening, and so on. */
    private static int usedAs(int what, int value) {
        ToolShed shed = Check.shedOf(1);
        shed.set(4, 1000);
        shed.set(what, value);
        shed.tool(0, 1, 50);
        switch (what) {
            case 0: shed.pass(30); return shed.memberOf(0, 8);
            case 1: return shed.borrow(0, 0);
            case 2: shed.borrow(0, 0); shed.pass(8); return shed.giveBack(0);
            case 6: return shed.propose(0, 1, 1);
            default: Check.wearOnce(shed, 0);
        }
        int tool = shed.sharpen();
        return what == 3 ? shed.memberOf(0, 1) : what == 4 ? tool : shed.toolOf(0, 6);
    }

    private static void promise3TenHaveJoined() {
        CHECK.due("3: the tenth", 9, Check.shedOf(9).member());
        new Twins(CHECK, () -> Check.shedOf(9)).dueUndone("3: the tenth", 9, ToolShed::member);
        new Twins(CHECK, () -> Check.shedOf(10)).dueUnchanged("3: the eleventh", Check.LIMIT, ToolShed::member);
        new Twins(CHECK, MembersEdgesTest::nineAreGone).dueUnchanged("3: the eleventh, when nine are gone", Check.LIMIT,
                ToolShed::member);
        ToolShed shed = Check.shedOf(10);
        shed.undo();
        CHECK.due("3: undone, the tenth joins anew", 9, shed.member());
        CHECK.due("3: and no other one", Check.LIMIT, shed.member());
    }

    private static ToolShed nineAreGone() {
        ToolShed shed = Check.shedOf(10);
        for (int member = 0; member < 9; member++) {
            shed.leave(member);
        }
        return shed;
    }

    private static void promise3AllIsZeroAtFirst() {
        ToolShed shed = Check.shedOf(3);
        shed.give(0, 400);
        shed.pass(30);
        shed.leave(0);
        CHECK.due("3: joins behind three", 3, shed.member());
        CHECK.dueText("3: all is 0, the place the last", "0 0 0 0 0 0 0 0 0 0 0 0 0 2", Check.numbers(shed, 3, 0, 13));
    }

    private static void promise4EachWayToAndFro() {
        Twins two = new Twins(CHECK, () -> Check.shedOf(2));
        two.dueUndone("4: there, and stays", 0, shed -> shed.away(1, 0));
        two.dueUndone("4: there, and goes", 0, shed -> shed.away(1, 1));
        Twins away = new Twins(CHECK, () -> awayIsOne(2));
        away.dueUndone("4: away, and stays", 1, shed -> shed.away(1, 1));
        away.dueUndone("4: away, and comes", 1, shed -> shed.away(1, 0));
    }

    private static ToolShed awayIsOne(int members) {
        ToolShed shed = Check.shedOf(members);
        shed.away(1, 1);
        return shed;
    }

    private static void promise4AwayOfAGoneOne() {
        Twins gone = new Twins(CHECK, MembersEdgesTest::nineAreGone);
        gone.dueNotPossible("4: a gone one goes away", shed -> shed.away(0, 1));
        gone.dueNotPossible("4: a gone one is there again", shed -> shed.away(8, 0));
        gone.dueUndone("4: the one who is left", 0, shed -> shed.away(9, 1));
    }

    private static ToolShed borrowed() {
        ToolShed shed = Check.shedOf(5);
        shed.tool(1, 1, 0);
        shed.borrow(0, 0);
        return shed;
    }

    private static ToolShed lost() {
        ToolShed shed = borrowed();
        shed.lose(0);
        return shed;
    }

    private static void promise5GoneHasToolOrLostOne() {
        Twins gone = new Twins(CHECK, MembersEdgesTest::nineAreGone);
        gone.dueNotPossible("5: the first who is gone", shed -> shed.leave(0));
        gone.dueNotPossible("5: the last who is gone", shed -> shed.leave(8));
        Twins lent = new Twins(CHECK, MembersEdgesTest::borrowed);
        lent.dueNotPossible("5: has a tool", shed -> shed.leave(0));
        lent.dueUndone("5: has none", 0, shed -> shed.leave(1));
        Twins losers = new Twins(CHECK, MembersEdgesTest::lost);
        losers.dueNotPossible("5: has a lost one", shed -> shed.leave(0));
        ToolShed back = borrowed();
        back.giveBack(0);
        CHECK.due("5: has given it back", 0, back.leave(0));
        ToolShed other = Check.shedOf(2);
        other.tool(1, 1, 0);
        other.lendOut(0, 0, 1, 0);
        CHECK.due("5: shed 0 has a tool, not member 0", 0, other.leave(0));
    }

    private static void promise5HasSomethingOpen() {
        for (int kind = 0; kind < 3; kind++) {
            int of = kind;
            Twins owing = new Twins(CHECK, () -> owing(of, 1));
            owing.dueNotPossible("5: one quarter open of kind " + kind, shed -> shed.leave(0));
            ToolShed paid = owing(kind, 1);
            paid.give(0, 1);
            CHECK.due("5: nothing open of kind " + kind, 0, paid.leave(0));
        }
    }

    /** Four members; the first one has so many quarters of this kind open, and the others nothing. */
    private static ToolShed owing(int kind, int quarters) {
        ToolShed shed = Check.shedOf(4);
        shed.tool(1, quarters, 1);
        if (kind == 0) {
            shed.set(0, quarters);
            for (int member = 1; member < 4; member++) {
                shed.give(member, quarters);
            }
            shed.pass(30);
        } else if (kind == 1) {
            shed.borrow(0, 0);
            shed.lose(0);
            shed.say(0, 1, 0);
            shed.say(0, 2, 0);
        } else {
            shed.propose(0, 4 * quarters - 3, 1);
            for (int member = 1; member < 4; member++) {
                shed.give(member, quarters);
                shed.vote(0, member, 1);
            }
        }
        return shed;
    }

    private static void promise5IsInAPanelThatIsNotOver() {
        Twins losers = new Twins(CHECK, MembersEdgesTest::lost);
        for (int member = 1; member <= 3; member++) {
            int one = member;
            losers.dueNotPossible("5: in the panel is " + member, shed -> shed.leave(one));
        }
        losers.dueUndone("5: not in the panel", 0, shed -> shed.leave(4));
        Twins said = new Twins(CHECK, () -> {
            ToolShed shed = lost();
            shed.say(0, 1, 1);
            shed.say(0, 2, 2);
            return shed;
        });
        said.dueNotPossible("5: has said all, but it is not over", shed -> shed.leave(1));
        ToolShed found = lost();
        found.find(0);
        CHECK.due("5: over since it is found", 0, found.leave(1));
        ToolShed decided = lost();
        decided.say(0, 1, 0);
        decided.say(0, 2, 0);
        CHECK.due("5: over since it is decided", 0, decided.leave(3));
    }

    private static void promise5NoOtherOneIsLeft() {
        new Twins(CHECK, () -> Check.shedOf(1)).dueNotPossible("5: the only one", shed -> shed.leave(0));
        new Twins(CHECK, MembersEdgesTest::nineAreGone).dueNotPossible("5: the others are gone", shed -> shed.leave(9));
        new Twins(CHECK, () -> awayIsOne(2)).dueUndone("5: the other one is away", 0, shed -> shed.leave(0));
    }

    private static void promise5CreditsOfNoneAndOfOne() {
        ToolShed none = Check.shedOf(10);
        CHECK.due("5: no credit", 0, none.leave(9));
        CHECK.dueText("5: nothing handed on, no pointer", "0 0", none.account(4) + " " + none.account(11));
        ToolShed one = Check.shedOf(10);
        one.give(0, 1);
        CHECK.due("5: a credit of one", 1, one.leave(0));
        CHECK.dueText("5: the first other one has it", "0 0 1 1 0", Check.numbers(one, 1, 0, 4));
        CHECK.dueText("5: the second has none", "0 0 0 0 0", Check.numbers(one, 2, 0, 4));
        CHECK.due("5: pointer", 2, one.account(11));
        ToolShed lone = Check.shedOf(2);
        lone.give(1, 401 - 1);
        CHECK.due("5: all to one", 400, lone.leave(1));
        CHECK.dueText("5: without a remainder", "400 0", lone.memberOf(0, 3) + " " + lone.account(11));
    }

    private static void promise6PaysJustWhatIsOpen() {
        for (int kind = 0; kind < 3; kind++) {
            for (int more = -1; more <= 1; more++) {
                ToolShed shed = owing(kind, 12);
                int open = shed.memberOf(0, 8 + kind);
                CHECK.due("6: credit behind " + more + " more than open", more > 0 ? 1 : 0, shed.give(0, open + more));
                CHECK.due("6: open of kind " + kind, more < 0 ? 1 : 0, shed.memberOf(0, 8 + kind));
                CHECK.due("6: paid of kind " + kind, more < 0 ? open - 1 : open, shed.memberOf(0, 5 + kind));
            }
        }
        for (int credit = 19; credit <= 21; credit++) {
            ToolShed shed = Check.shedOf(1);
            shed.give(0, credit);
            shed.pass(30);
            CHECK.due("6: credit left of " + credit, Math.max(0, credit - 20), shed.memberOf(0, 3));
            CHECK.due("6: open with credit " + credit, Math.max(0, 20 - credit), shed.memberOf(0, 8));
        }
    }

    private static void promise6GoneOneGivesNothing() {
        Twins gone = new Twins(CHECK, MembersEdgesTest::nineAreGone);
        gone.dueNotPossible("6: the least of a gone one", shed -> shed.give(8, 1));
        gone.dueNotPossible("6: the most of a gone one", shed -> shed.give(8, 400));
        gone.dueUndone("6: the most of the one who is left", 400, shed -> shed.give(9, 400));
    }

    private static void promise7FirstAndLastOfTen() {
        ToolShed shed = Check.shedOf(10);
        CHECK.due("7: the first place", 0, shed.memberOf(0, 13));
        CHECK.due("7: the last place", 9, shed.memberOf(9, 13));
        shed.leave(0);
        CHECK.due("7: the first place then", 0, shed.memberOf(1, 13));
        CHECK.due("7: the last place then", 8, shed.memberOf(9, 13));
        Twins gone = new Twins(CHECK, MembersEdgesTest::nineAreGone);
        gone.dueNotFound("7: place of the first who is gone", one -> one.memberOf(0, 13));
        gone.dueNotFound("7: place of the last who is gone", one -> one.memberOf(8, 13));
        gone.dueUnchanged("7: place of the one who is left", 0, one -> one.memberOf(9, 13));
        gone.dueUnchanged("7: tools of a gone one", 0, one -> one.memberOf(0, 12));
        gone.dueUnchanged("7: a gone one is", 2, one -> one.memberOf(0, 0));
        ToolShed three = Check.shedOf(4);
        for (int tool = 0; tool < 3; tool++) {
            three.tool(1, 1, 0);
            three.borrow(tool, 0);
            CHECK.due("7: tools", tool + 1, three.memberOf(0, 12));
        }
        for (int tool = 0; tool < 3; tool++) {
            three.lose(tool);
            CHECK.due("7: without lost ones", 2 - tool, three.memberOf(0, 12));
            CHECK.due("7: panels", tool + 1, three.memberOf(1, 11));
        }
    }

    private static void promise8GoneOnesIncluded() {
        ToolShed shed = Check.shedOf(2);
        shed.give(0, 100);
        shed.pass(30);
        CHECK.due("8: leave", 80, shed.leave(0));
        StringBuilder all = new StringBuilder();
        for (int what = 1; what <= 11; what++) {
            all.append(shed.account(what)).append(' ');
        }
        CHECK.dueText("8: given, shared, credit, handed on, dues", "100 80 60 80 40 0 0 0 0 0 0 ", all.toString());
    }

    private static void promise9NoDebtorAndTen() {
        new Twins(CHECK, () -> Check.shedOf(10)).dueNotFound("9: nobody owes", shed -> shed.debtorAt(0));
        ToolShed shed = Check.shedOf(10);
        shed.pass(30);
        for (int index = 0; index < 10; index++) {
            CHECK.due("9: equal ones by numbers, " + index, index, shed.debtorAt(index));
        }
        CHECK.due("9: behind the tenth", Check.NOT_FOUND, shed.debtorAt(10));
        for (int member = 0; member < 10; member++) {
            shed.give(member, 1 + member);
        }
        for (int member = 9; member >= 5; member--) {
            shed.give(member, 19 - member);
        }
        for (int index = 0; index < 5; index++) {
            CHECK.due("9: the most first, " + index, index, shed.debtorAt(index));
        }
        CHECK.due("9: who has paid all is none", Check.NOT_FOUND, shed.debtorAt(5));
    }

    private static void promise9OneQuarterIsEnough() {
        for (int kind = 0; kind < 3; kind++) {
            ToolShed shed = owing(kind, 1);
            CHECK.due("9: one quarter of kind " + kind, 0, shed.debtorAt(0));
            CHECK.due("9: behind the only one", Check.NOT_FOUND, shed.debtorAt(1));
            shed.give(0, 1);
            CHECK.due("9: it is paid", Check.NOT_FOUND, shed.debtorAt(0));
        }
    }
}
