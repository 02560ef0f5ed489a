/** Promises 1 to 9: settings and members. */
public final class MembersTest {
    private static final Check CHECK = new Check();

    public static void main(String[] args) {
        promise1NewObject();
        promise2Set();
        promise3Member();
        promise4Away();
        promise5Leave();
        promise5WhatKeepsAMember();
        promise6Give();
        promise7MemberOf();
        promise8Account();
        promise8Pointer();
        promise9DebtorAt();
        CHECK.close("MembersTest");
    }

    private static void promise1NewObject() {
        ToolShed shed = new ToolShed();
        for (int what = 0; what <= 11; what++) {
            CHECK.due("new: count(" + what + ")", 0, shed.count(what));
        }
        for (int what = 1; what <= 11; what++) {
            CHECK.due("new: account(" + what + ")", 0, shed.account(what));
        }
        CHECK.due("new: memberOf(0, 0)", Check.INVALID, shed.memberOf(0, 0));
        CHECK.due("new: toolOf(0, 0)", Check.INVALID, shed.toolOf(0, 0));
        CHECK.due("new: turnAt(0)", Check.NOT_FOUND, shed.turnAt(0));
        CHECK.due("new: dullAt(0)", Check.NOT_FOUND, shed.dullAt(0));
        CHECK.due("new: undo()", Check.NOT_POSSIBLE, shed.undo());
        CHECK.due("new: fault(0)", Check.NOT_FOUND, shed.fault(0));
        ToolShed other = Check.shedOf(2);
        other.set(0, 5);
        CHECK.due("another object has its own settings", 20, shed.count(20));
        CHECK.due("another object has its own members", 0, shed.count(0));
    }

    private static void promise2Set() {
        int[] least = {0, 1, 0, 0, 0, 0, 1};
        int[] most = {400, 60, 20, 40, 1000, 100, 60};
        int[] first = {20, 7, 1, 2, 600, 80, 10};
        ToolShed shed = new ToolShed();
        for (int what = 0; what < 7; what++) {
            CHECK.due("first value of " + what, first[what], shed.count(20 + what));
            CHECK.due("set below", Check.INVALID, shed.set(what, least[what] - 1));
            CHECK.due("set above", Check.INVALID, shed.set(what, most[what] + 1));
            CHECK.due("set refused changes nothing", first[what], shed.count(20 + what));
            CHECK.due("set least", first[what], shed.set(what, least[what]));
            CHECK.due("set most", least[what], shed.set(what, most[what]));
            CHECK.due("set the same again", most[what], shed.set(what, most[what]));
            CHECK.due("setting is kept", most[what], shed.count(20 + what));
        }
        CHECK.due("set(-1, 1)", Check.INVALID, shed.set(-1, 1));
        CHECK.due("set(7, 1)", Check.INVALID, shed.set(7, 1));
        CHECK.due("set(least int, 1)", Check.INVALID, shed.set(Integer.MIN_VALUE, 1));
        CHECK.due("set(most int, 1)", Check.INVALID, shed.set(Integer.MAX_VALUE, 1));
    }

    private static void promise3Member() {
        ToolShed shed = new ToolShed();
        for (int i = 0; i < 10; i++) {
            CHECK.due("member()", i, shed.member());
            CHECK.due("who joins is there", 0, shed.memberOf(i, 0));
            CHECK.due("who joins is last in the turns", i, shed.memberOf(i, 13));
        }
        CHECK.due("the eleventh", Check.LIMIT, shed.member());
        CHECK.due("members there", 10, shed.count(0));
        shed.leave(3);
        CHECK.due("gone ones have joined too", Check.LIMIT, shed.member());
    }

    private static void promise4Away() {
        ToolShed shed = Check.shedOf(2);
        CHECK.due("goes away", 0, shed.away(0, 1));
        CHECK.due("is away", 1, shed.memberOf(0, 0));
        CHECK.due("still away", 1, shed.away(0, 1));
        CHECK.due("there again", 1, shed.away(0, 0));
        CHECK.due("was there", 0, shed.away(0, 0));
        CHECK.due("is there", 0, shed.memberOf(0, 0));
        CHECK.due("away(0, 2)", Check.INVALID, shed.away(0, 2));
        CHECK.due("away(0, -1)", Check.INVALID, shed.away(0, -1));
        CHECK.due("away(2, 1)", Check.INVALID, shed.away(2, 1));
        CHECK.due("away(-1, 1)", Check.INVALID, shed.away(-1, 1));
        shed.leave(1);
        CHECK.due("gone", Check.NOT_POSSIBLE, shed.away(1, 0));
        CHECK.due("gone, and a wrong argument", Check.INVALID, shed.away(1, 7));
        CHECK.due("gone stays gone", 2, shed.memberOf(1, 0));
    }

    private static void promise5Leave() {
        ToolShed shed = Check.shedOf(4);
        shed.give(0, 20);
        shed.away(3, 1);
        CHECK.due("leave", 20, shed.leave(0));
        CHECK.dueText("the leaver", "2 20 0 0 20", Check.numbers(shed, 0, 0, 4));
        CHECK.dueText("the first of the others gets one more", "0 0 7 7 0", Check.numbers(shed, 1, 0, 4));
        CHECK.dueText("the second one too", "0 0 7 7 0", Check.numbers(shed, 2, 0, 4));
        CHECK.dueText("an away one gets a share", "1 0 6 6 0", Check.numbers(shed, 3, 0, 4));
        CHECK.due("pointer", 3, shed.account(11));
        CHECK.due("gone ones are not in the turns", 1, shed.turnAt(0));
        CHECK.due("leave again", Check.NOT_POSSIBLE, shed.leave(0));
        CHECK.due("leave(4)", Check.INVALID, shed.leave(4));
        CHECK.due("leave(-1)", Check.INVALID, shed.leave(-1));
        CHECK.due("leave", 7, shed.leave(1));
        CHECK.due("the pointer's one first", 10, shed.memberOf(3, 3));
        CHECK.due("the other one", 10, shed.memberOf(2, 3));
        CHECK.due("pointer behind the one", 4, shed.account(11));
        CHECK.due("leave for an away one", 10, shed.leave(2));
        CHECK.due("the last one stays", Check.NOT_POSSIBLE, shed.leave(3));
        CHECK.due("all that was given is one's credit", 20, shed.memberOf(3, 3));

        ToolShed paying = Check.shedOf(3);
        paying.set(0, 10);
        paying.give(0, 40);
        paying.pass(30);
        CHECK.due("what is left of 40 behind the dues", 30, paying.leave(0));
        CHECK.dueText("a share pays what is open", "0 0 15 5 0 10 0 0 0", Check.numbers(paying, 1, 0, 8));
    }

    private static void promise5WhatKeepsAMember() {
        ToolShed shed = Check.shedOf(5);
        shed.tool(1, 10, 0);
        shed.borrow(0, 0);
        CHECK.due("has a tool", Check.NOT_POSSIBLE, shed.leave(0));
        shed.lose(0);
        CHECK.due("has a lost one", Check.NOT_POSSIBLE, shed.leave(0));
        CHECK.due("is in a panel", Check.NOT_POSSIBLE, shed.leave(1));
        CHECK.due("is the last in the panel", Check.NOT_POSSIBLE, shed.leave(3));
        CHECK.due("is in no panel", 0, shed.leave(4));
        shed.say(0, 3, 0);
        CHECK.due("has said something in the panel", Check.NOT_POSSIBLE, shed.leave(3));
        shed.find(0);
        CHECK.due("the panel is over", 0, shed.leave(3));
        CHECK.due("the tool is found", 0, shed.leave(0));
        shed.pass(30);
        CHECK.due("has something open", Check.NOT_POSSIBLE, shed.leave(1));
        shed.give(1, 19);
        CHECK.due("has one quarter open", Check.NOT_POSSIBLE, shed.leave(1));
        shed.give(1, 1);
        CHECK.due("has nothing open", 0, shed.leave(1));

        ToolShed decided = Check.shedOf(5);
        decided.tool(1, 10, 0);
        decided.borrow(0, 0);
        decided.lose(0);
        decided.say(0, 1, 0);
        decided.say(0, 2, 0);
        CHECK.due("the panel has decided", 0, decided.leave(1));
        CHECK.due("losses are open", Check.NOT_POSSIBLE, decided.leave(0));
        decided.give(0, 10);
        CHECK.due("losses are paid", 0, decided.leave(0));
    }

    private static void promise6Give() {
        ToolShed shed = Check.shedOf(3);
        CHECK.due("give least", 1, shed.give(0, 1));
        CHECK.due("give most", 401, shed.give(0, 400));
        CHECK.due("give(0, 0)", Check.INVALID, shed.give(0, 0));
        CHECK.due("give(0, 401)", Check.INVALID, shed.give(0, 401));
        CHECK.due("give(0, -5)", Check.INVALID, shed.give(0, -5));
        CHECK.due("give(3, 5)", Check.INVALID, shed.give(3, 5));
        CHECK.due("give(-1, 5)", Check.INVALID, shed.give(-1, 5));
        shed.away(1, 1);
        CHECK.due("an away one gives", 5, shed.give(1, 5));
        shed.leave(1);
        CHECK.due("a gone one", Check.NOT_POSSIBLE, shed.give(1, 5));
        CHECK.due("a gone one, and a wrong argument", Check.INVALID, shed.give(1, 0));
        paysInOrder();
    }

    /** Dues, losses and upgrades are open, of 20, 30 and 40 quarters, and are paid in this order. */
    private static void paysInOrder() {
        ToolShed shed = Check.shedOf(5);
        shed.tool(1, 30, 0);
        shed.tool(1, 5, 50);
        shed.borrow(0, 0);
        shed.propose(1, 200, 1);
        shed.vote(1, 0, 1);
        shed.vote(1, 1, 1);
        CHECK.due("accepted", 1, shed.vote(1, 2, 1));
        shed.lose(0);
        shed.say(0, 1, 0);
        CHECK.due("decided", 0, shed.say(0, 2, 0));
        shed.pass(30);
        CHECK.dueText("all open", "0 0 0 20 30 40", Check.numbers(shed, 0, 5, 10));
        CHECK.due("some dues", 0, shed.give(0, 15));
        CHECK.dueText("dues first", "15 0 0 5 30 40", Check.numbers(shed, 0, 5, 10));
        CHECK.due("more", 0, shed.give(0, 15));
        CHECK.dueText("then losses", "20 10 0 0 20 40", Check.numbers(shed, 0, 5, 10));
        CHECK.due("more", 0, shed.give(0, 25));
        CHECK.dueText("then upgrades", "20 30 5 0 0 35", Check.numbers(shed, 0, 5, 10));
        CHECK.due("more than open", 4, shed.give(0, 39));
        CHECK.dueText("then credit", "20 30 40 0 0 0", Check.numbers(shed, 0, 5, 10));
        CHECK.due("all given", 94, shed.memberOf(0, 1));
    }

    private static void promise7MemberOf() {
        ToolShed shed = Check.shedOf(6);
        for (int tool = 0; tool < 3; tool++) {
            shed.tool(1, 8, 0);
            shed.borrow(tool, 1);
        }
        shed.give(1, 50);
        shed.pass(30);
        shed.lose(1);
        CHECK.dueText("who has tools", "0 50 0 30 0 20 0 0 0 0 0 0 2 1", Check.numbers(shed, 1, 0, 13));
        CHECK.dueText("who is in a panel", "0 0 0 0 0 0 0 0 20 0 0 1 0 0", Check.numbers(shed, 0, 0, 13));
        shed.away(0, 1);
        CHECK.due("away", 1, shed.memberOf(0, 0));
        shed.give(5, 30);
        shed.leave(5);
        CHECK.dueText("who is gone", "2 30 0 0 10 20 0 0 0 0 0 0 0", Check.numbers(shed, 5, 0, 12));
        CHECK.due("place of a gone one", Check.NOT_FOUND, shed.memberOf(5, 13));
        CHECK.due("place in the turns", 4, shed.memberOf(4, 13));
        CHECK.due("memberOf(0, 14)", Check.INVALID, shed.memberOf(0, 14));
        CHECK.due("memberOf(0, -1)", Check.INVALID, shed.memberOf(0, -1));
        CHECK.due("memberOf(6, 0)", Check.INVALID, shed.memberOf(6, 0));
        CHECK.due("memberOf(-1, 0)", Check.INVALID, shed.memberOf(-1, 0));
        CHECK.due("gone, and a wrong what", Check.INVALID, shed.memberOf(5, 14));
    }

    private static void promise8Account() {
        ToolShed shed = Check.shedOf(4);
        shed.tool(1, 21, 9);
        shed.tool(1, 11, 9);
        shed.give(0, 50);
        shed.give(1, 7);
        shed.borrow(0, 0);
        shed.lose(0);
        shed.say(0, 1, 0);
        shed.say(0, 2, 0);
        shed.propose(1, 9, 9);
        shed.vote(1, 0, 1);
        shed.vote(1, 1, 1);
        shed.vote(1, 2, 1);
        shed.pass(30);
        StringBuilder all = new StringBuilder();
        for (int what = 1; what <= 11; what++) {
            all.append(shed.account(what)).append(' ');
        }
        CHECK.dueText("all together", "57 0 6 0 25 21 5 55 0 4 1 ", all.toString());
        CHECK.due("leave", 6, shed.leave(0));
        CHECK.due("gone ones included: given", 57, shed.account(1));
        CHECK.due("gone ones included: handed on", 6, shed.account(4));
        CHECK.due("shared", 6, shed.account(2));
        CHECK.due("account(0)", Check.INVALID, shed.account(0));
        CHECK.due("account(12)", Check.INVALID, shed.account(12));
        CHECK.due("account(-1)", Check.INVALID, shed.account(-1));
    }

    /** Ten members share 17 by 17, so that the pointer goes round and passes number 9. */
    private static void promise8Pointer() {
        ToolShed shed = Check.shedOf(10);
        shed.tool(1, 1, 0);
        int[] due = {7, 4, 1, 8, 5, 2, 9, 6, 3, 0};
        for (int i = 0; i < due.length; i++) {
            shed.lendOut(0, 0, 1, 17);
            shed.comeBack(0);
            CHECK.due("pointer behind share " + i, due[i], shed.account(11));
        }
        for (int i = 0; i < 10; i++) {
            CHECK.due("shares are even in the end", 17, shed.memberOf(i, 3));
        }
        shed.lendOut(0, 0, 1, 20);
        shed.comeBack(0);
        CHECK.due("no remainder leaves the pointer", 0, shed.account(11));
        shed.lendOut(0, 0, 1, 9);
        shed.comeBack(0);
        CHECK.due("pointer at the last one", 9, shed.account(11));
        shed.lendOut(0, 0, 1, 1);
        shed.comeBack(0);
        CHECK.due("0 behind 9", 0, shed.account(11));
    }

    private static void promise9DebtorAt() {
        ToolShed shed = Check.shedOf(5);
        CHECK.due("nobody owes", Check.NOT_FOUND, shed.debtorAt(0));
        shed.give(2, 30);
        shed.give(3, 5);
        shed.pass(30);
        CHECK.due("the most, lowest number", 0, shed.debtorAt(0));
        CHECK.due("the most, next number", 1, shed.debtorAt(1));
        CHECK.due("the most, last number", 4, shed.debtorAt(2));
        CHECK.due("less", 3, shed.debtorAt(3));
        CHECK.due("who has credit owes nothing", Check.NOT_FOUND, shed.debtorAt(4));
        shed.give(0, 19);
        CHECK.due("all three kinds count together", 1, shed.debtorAt(0));
        CHECK.due("the least", 0, shed.debtorAt(3));
        CHECK.due("debtorAt(-1)", Check.INVALID, shed.debtorAt(-1));
        CHECK.due("debtorAt(most int)", Check.NOT_FOUND, shed.debtorAt(Integer.MAX_VALUE));
        CHECK.due("debtorAt(least int)", Check.INVALID, shed.debtorAt(Integer.MIN_VALUE));
        sumsTheKinds();
    }

    private static void sumsTheKinds() {
        ToolShed shed = Check.shedOf(4);
        shed.tool(1, 15, 0);
        shed.borrow(0, 3);
        shed.lose(0);
        shed.say(0, 0, 0);
        shed.say(0, 1, 0);
        shed.pass(30);
        CHECK.due("35 of two kinds is ahead of 20", 3, shed.debtorAt(0));
        CHECK.due("then by numbers", 0, shed.debtorAt(1));
    }
}
